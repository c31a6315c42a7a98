set_option maxHeartbeats 4000000 in
set_option maxRecDepth 100000 in
theorem kX4_isSheet (l : Launch) (n : Nat) (x0 : Int32) (r0 : Int32) (h : fX4_isSheet n  x0 = some r0) : Met l yX4_isSheet wsX4_isSheet ({ frames := 0, cells := 0, slots := 0, locals := 0 }) (pP [.int x0]) (pI r0) 0 0 no_A := by
  refine Met.ofW (cc := cX4_isSheet) (maxL := 1) (ret := (some .boolean)) (by decide) rfl ?_
  intro p e s m args below meth c s₁ B hml hv
  obtain ⟨rfl, -⟩ := hv
  have hx := B.exec
  have hb := B.bytes
  have hr := B.returns
  have hts := atoms_spec (ws := wsX4_isSheet) B.pre
  have hown : s.vm.findClass RX4 = some m.cls := findClass_of_methodNamed B.named
  have hlocks := B.notSynchronized
  have hS : va_S no_A s.heap s.heap [] := va_S.rf
  have C0 : cxp cX4_isSheet (some .boolean) 1 RX4 wsX4_isSheet p s m ([.int x0] : List Value).toArray meth c := ⟨hx, hb, hr, hml, hown, hts, hlocks⟩
  have hl := lv_entry ([.int x0]) (n := 1) (Nat.le_of_ble_eq_true rfl)
  rw [lg_entry_eq]
  generalize (lg_sl ([.int x0]) ++ List.replicate (1 - (lg_sl ([.int x0])).length) Slot.unset).toArray = ls at hl ⊢
  have hl : lv_has ls 1 [(0, .int x0)] := hl
  unfold fX4_isSheet at h
  refine lv_iload_n hx hb dX4_isSheet_0 rfl (lv_at hl 0 rfl) ?_
  refine lv_if_lt (tgt := 13) hx hb dX4_isSheet_1 (by decide) (fun c1 => ?_) (fun c1 => ?_)
  · have h := it_use c1 h
    refine lv_iconst (v := 0) hx hb dX4_isSheet_13 (by decide) ?_
    obtain er := rt1_use h
    exact rp_z hx hb hr hlocks hS (Or.inl rfl) er dX4_isSheet_14
  · have h := ie_use c1 h
    refine lv_iload_n hx hb dX4_isSheet_4 rfl (lv_at hl 0 rfl) ?_
    refine lv_iconst (v := 4) hx hb dX4_isSheet_5 (by decide) ?_
    refine lv_icmp_ge (tgt := 13) hx hb dX4_isSheet_6 (by decide) (fun c2 => ?_) (fun c2 => ?_)
    · have h := it_use c2 h
      refine lv_iconst (v := 0) hx hb dX4_isSheet_13 (by decide) ?_
      obtain er := rt1_use h
      exact rp_z hx hb hr hlocks hS (Or.inl rfl) er dX4_isSheet_14
    · have h := ie_use c2 h
      refine lv_iconst (v := 1) hx hb dX4_isSheet_9 (by decide) ?_
      refine lv_goto (tgt := 14) hx hb dX4_isSheet_10 (by decide) ?_
      obtain er := rt1_use h
      exact rp_z hx hb hr hlocks hS (Or.inr rfl) er dX4_isSheet_14
set_option maxHeartbeats 4000000 in
set_option maxRecDepth 100000 in
theorem kX4_isLane (l : Launch) (n : Nat) (x0 : Int32) (r0 : Int32) (h : fX4_isLane n  x0 = some r0) : Met l yX4_isLane wsX4_isLane ({ frames := 0, cells := 0, slots := 0, locals := 0 }) (pP [.int x0]) (pI r0) 0 0 no_A := by
  refine Met.ofW (cc := cX4_isLane) (maxL := 1) (ret := (some .boolean)) (by decide) rfl ?_
  intro p e s m args below meth c s₁ B hml hv
  obtain ⟨rfl, -⟩ := hv
  have hx := B.exec
  have hb := B.bytes
  have hr := B.returns
  have hts := atoms_spec (ws := wsX4_isLane) B.pre
  have hown : s.vm.findClass RX4 = some m.cls := findClass_of_methodNamed B.named
  have hlocks := B.notSynchronized
  have hS : va_S no_A s.heap s.heap [] := va_S.rf
  have C0 : cxp cX4_isLane (some .boolean) 1 RX4 wsX4_isLane p s m ([.int x0] : List Value).toArray meth c := ⟨hx, hb, hr, hml, hown, hts, hlocks⟩
  have hl := lv_entry ([.int x0]) (n := 1) (Nat.le_of_ble_eq_true rfl)
  rw [lg_entry_eq]
  generalize (lg_sl ([.int x0]) ++ List.replicate (1 - (lg_sl ([.int x0])).length) Slot.unset).toArray = ls at hl ⊢
  have hl : lv_has ls 1 [(0, .int x0)] := hl
  unfold fX4_isLane at h
  refine lv_iload_n hx hb dX4_isLane_0 rfl (lv_at hl 0 rfl) ?_
  refine lv_if_lt (tgt := 13) hx hb dX4_isLane_1 (by decide) (fun c1 => ?_) (fun c1 => ?_)
  · have h := it_use c1 h
    refine lv_iconst (v := 0) hx hb dX4_isLane_13 (by decide) ?_
    obtain er := rt1_use h
    exact rp_z hx hb hr hlocks hS (Or.inl rfl) er dX4_isLane_14
  · have h := ie_use c1 h
    refine lv_iload_n hx hb dX4_isLane_4 rfl (lv_at hl 0 rfl) ?_
    refine lv_iconst (v := 2) hx hb dX4_isLane_5 (by decide) ?_
    refine lv_icmp_gt (tgt := 13) hx hb dX4_isLane_6 (by decide) (fun c2 => ?_) (fun c2 => ?_)
    · have h := it_use c2 h
      refine lv_iconst (v := 0) hx hb dX4_isLane_13 (by decide) ?_
      obtain er := rt1_use h
      exact rp_z hx hb hr hlocks hS (Or.inl rfl) er dX4_isLane_14
    · have h := ie_use c2 h
      refine lv_iconst (v := 1) hx hb dX4_isLane_9 (by decide) ?_
      refine lv_goto (tgt := 14) hx hb dX4_isLane_10 (by decide) ?_
      obtain er := rt1_use h
      exact rp_z hx hb hr hlocks hS (Or.inr rfl) er dX4_isLane_14
set_option maxHeartbeats 4000000 in
set_option maxRecDepth 100000 in
theorem kX4_faultOfRow (l : Launch) (n : Nat) (dC : Nat → ClassId) (dI : Nat → Nat → Nat) (cB cI cJ cZ : ClassId) (a : Nat → Nat) (adK adV : Nat → Nat) (sz : Nat) (ww_latestFault : Int32) (tp_bytes : Nat → Int32) (tp_size : Int32) (rd_fault : Int32) (rd_faultPlace : Int32) (rd_kind : Int32) (rd_start : Int32) (rd_at : Int32) (rd_number : Int32) (dr_letterMarks : Nat → Int32) (dr_names : Nat → Int64) (dr_spelled : Nat → Int32) (dr_rows : Nat → Int64) (dr_alike : Nat → Int32) (dr_near : Nat → Int32) (dr_asks : Nat → Int32) (dr_letters : Int32) (dr_words : Int32) (dr_askCount : Int32) (sh_lanes : Nat → Int32) (sh_sizes : Nat → Int32) (sh_cells : Nat → Int32) (la_xs : Nat → Int32) (la_ys : Nat → Int32) (la_heights : Nat → Int32) (la_ridgeXs : Nat → Int32) (la_ridgeHeights : Nat → Int32) (la_way : Nat → Int32) (la_blurs : Nat → Int32) (la_steps : Nat → Int32) (la_places : Int32) (la_ridges : Int32) (la_wayBlur : Int32) (la_wayLength : Int32) (bk_times : Nat → Int32) (bk_froms : Nat → Int32) (bk_asks : Nat → Int32) (bk_words : Nat → Int32) (bk_firsts : Nat → Int32) (bk_lies : Nat → Int32) (bk_held : Nat → Int32) (bk_size : Int32) (nu_learned : Nat → Int32) (nu_size : Int32) (to_letterMarks : Nat → Int32) (to_names : Nat → Int64) (to_spelled : Nat → Int32) (to_rows : Nat → Int64) (to_alike : Nat → Int32) (to_near : Nat → Int32) (to_asks : Nat → Int32) (to_letters : Int32) (to_words : Int32) (to_askCount : Int32) (x1 : Int32) (x2 : Int32) (x3 : Int32) (x4 : Int32) (r0 : Int32) (h : fX4_faultOfRow n sh_lanes sh_sizes x1 x2 x3 x4 = some r0) : Met l yX4_faultOfRow wsX4_faultOfRow ({ frames := 0, cells := 0, slots := 0, locals := 0 }) (gP (dC, dI) (tyz cB cI cJ cZ) (E_X adK adV) (wX cB cI cJ cZ a (a 35) (a 4) ww_latestFault tp_bytes tp_size rd_fault rd_faultPlace rd_kind rd_start rd_at rd_number dr_letterMarks dr_names dr_spelled dr_rows dr_alike dr_near dr_asks dr_letters dr_words dr_askCount sh_lanes sh_sizes sh_cells la_xs la_ys la_heights la_ridgeXs la_ridgeHeights la_way la_blurs la_steps la_places la_ridges la_wayBlur la_wayLength bk_times bk_froms bk_asks bk_words bk_firsts bk_lies bk_held bk_size nu_learned nu_size to_letterMarks to_names to_spelled to_rows to_alike to_near to_asks to_letters to_words to_askCount) sz [.ref (a 12), .int x1, .int x2, .int x3, .int x4]) (gI (dC, dI) (tyz cB cI cJ cZ) (wX cB cI cJ cZ a (a 35) (a 4) ww_latestFault tp_bytes tp_size rd_fault rd_faultPlace rd_kind rd_start rd_at rd_number dr_letterMarks dr_names dr_spelled dr_rows dr_alike dr_near dr_asks dr_letters dr_words dr_askCount sh_lanes sh_sizes sh_cells la_xs la_ys la_heights la_ridgeXs la_ridgeHeights la_way la_blurs la_steps la_places la_ridges la_wayBlur la_wayLength bk_times bk_froms bk_asks bk_words bk_firsts bk_lies bk_held bk_size nu_learned nu_size to_letterMarks to_names to_spelled to_rows to_alike to_near to_asks to_letters to_words to_askCount) (va_A (wX cB cI cJ cZ a (a 35) (a 4) ww_latestFault tp_bytes tp_size rd_fault rd_faultPlace rd_kind rd_start rd_at rd_number dr_letterMarks dr_names dr_spelled dr_rows dr_alike dr_near dr_asks dr_letters dr_words dr_askCount sh_lanes sh_sizes sh_cells la_xs la_ys la_heights la_ridgeXs la_ridgeHeights la_way la_blurs la_steps la_places la_ridges la_wayBlur la_wayLength bk_times bk_froms bk_asks bk_words bk_firsts bk_lies bk_held bk_size nu_learned nu_size to_letterMarks to_names to_spelled to_rows to_alike to_near to_asks to_letters to_words to_askCount) sz) r0) 0 0 (va_A (wX cB cI cJ cZ a (a 35) (a 4) ww_latestFault tp_bytes tp_size rd_fault rd_faultPlace rd_kind rd_start rd_at rd_number dr_letterMarks dr_names dr_spelled dr_rows dr_alike dr_near dr_asks dr_letters dr_words dr_askCount sh_lanes sh_sizes sh_cells la_xs la_ys la_heights la_ridgeXs la_ridgeHeights la_way la_blurs la_steps la_places la_ridges la_wayBlur la_wayLength bk_times bk_froms bk_asks bk_words bk_firsts bk_lies bk_held bk_size nu_learned nu_size to_letterMarks to_names to_spelled to_rows to_alike to_near to_asks to_letters to_words to_askCount) sz) := by
  refine Met.ofW (cc := cX4_faultOfRow) (maxL := 6) (ret := (some .int)) (by decide) rfl ?_
  intro p e s m args below meth c s₁ B hml hv
  obtain ⟨rfl, hsz, hP, hK, hD0, hE⟩ := hv
  have hx := B.exec
  have hb := B.bytes
  have hr := B.returns
  have hts := atoms_spec (ws := wsX4_faultOfRow) B.pre
  have hown : s.vm.findClass RX4 = some m.cls := findClass_of_methodNamed B.named
  have hlocks := B.notSynchronized
  subst hsz
  have hD := hD0.self (sz := s.heap.size)
  have hA : ∀ q : Nat, s.heap.size ≤ q → va_A (wX cB cI cJ cZ a (a 35) (a 4) ww_latestFault tp_bytes tp_size rd_fault rd_faultPlace rd_kind rd_start rd_at rd_number dr_letterMarks dr_names dr_spelled dr_rows dr_alike dr_near dr_asks dr_letters dr_words dr_askCount sh_lanes sh_sizes sh_cells la_xs la_ys la_heights la_ridgeXs la_ridgeHeights la_way la_blurs la_steps la_places la_ridges la_wayBlur la_wayLength bk_times bk_froms bk_asks bk_words bk_firsts bk_lies bk_held bk_size nu_learned nu_size to_letterMarks to_names to_spelled to_rows to_alike to_near to_asks to_letters to_words to_askCount) s.heap.size q := fun q h => Or.inr h
  generalize va_A (wX cB cI cJ cZ a (a 35) (a 4) ww_latestFault tp_bytes tp_size rd_fault rd_faultPlace rd_kind rd_start rd_at rd_number dr_letterMarks dr_names dr_spelled dr_rows dr_alike dr_near dr_asks dr_letters dr_words dr_askCount sh_lanes sh_sizes sh_cells la_xs la_ys la_heights la_ridgeXs la_ridgeHeights la_way la_blurs la_steps la_places la_ridges la_wayBlur la_wayLength bk_times bk_froms bk_asks bk_words bk_firsts bk_lies bk_held bk_size nu_learned nu_size to_letterMarks to_names to_spelled to_rows to_alike to_near to_asks to_letters to_words to_askCount) s.heap.size = A at hD hA hE ⊢
  have hS : va_S A s.heap s.heap [] := va_S.rf
  have C0 : cxt cX4_faultOfRow (some .int) 6 RX4 wsX4_faultOfRow (dC, dI) (tyz cB cI cJ cZ) (E_X adK adV) A p s m ([.ref (a 12), .int x1, .int x2, .int x3, .int x4] : List Value).toArray meth c := ⟨hx, hb, hr, hml, hown, hts, hlocks, hK, hA, hE⟩
  have hl := lv_entry ([.ref (a 12), .int x1, .int x2, .int x3, .int x4]) (n := 6) (Nat.le_of_ble_eq_true rfl)
  rw [lg_entry_eq]
  generalize (lg_sl ([.ref (a 12), .int x1, .int x2, .int x3, .int x4]) ++ List.replicate (6 - (lg_sl ([.ref (a 12), .int x1, .int x2, .int x3, .int x4])).length) Slot.unset).toArray = ls at hl ⊢
  have hl : lv_has ls 6 [(0, .ref (a 12)), (1, .int x1), (2, .int x2), (3, .int x3), (4, .int x4)] := hl
  have hw0 := hts (.fieldLink RX4 15 "WhistledWords$Sheets" "sizes" "[I") (by decide +kernel)
  have hw1 := hts (.fieldLink RX4 11 "WhistledWords$Sheets" "lanes" "[I") (by decide +kernel)
  have hnX4 : ∀ w ∈ u_ws RX4 TX4 3, w ∈ wsX4_faultOfRow := fun _ h => List.mem_cons_of_mem _ (List.mem_append_right _ h)
  unfold fX4_faultOfRow at h
  refine lv_aload_n hx hb dX4_faultOfRow_0 rfl (lv_at hl 0 rfl) ?_
  refine gX_sheets_sizes hx hb hts hnX4 hown hK hP hw0 dX4_faultOfRow_1 ?_
  refine lv_iload_n hx hb dX4_faultOfRow_4 rfl (lv_at hl 1 rfl) ?_
  obtain ⟨hiv1, h⟩ := ar_use h
  refine lX_sheets_sizes hx hb hK hP hiv1 dX4_faultOfRow_5 ?_
  refine lv_topi (fun v1 ev1 => ?_)
  have h := h v1 ev1
  refine lv_iconst (v := -1) hx hb dX4_faultOfRow_6 (by decide) ?_
  refine lv_icmp_ne (tgt := 12) hx hb dX4_faultOfRow_7 (by decide) (fun c2 => ?_) (fun c2 => ?_)
  · have h := ie_use c2 h
    refine lv_aload_n hx hb dX4_faultOfRow_12 rfl (lv_at hl 0 rfl) ?_
    refine gX_sheets_lanes hx hb hts hnX4 hown hK hP hw1 dX4_faultOfRow_13 ?_
    refine lv_iload_n hx hb dX4_faultOfRow_16 rfl (lv_at hl 1 rfl) ?_
    obtain ⟨hiv3, h⟩ := ar_use h
    refine lX_sheets_lanes hx hb hK hP hiv3 dX4_faultOfRow_17 ?_
    refine lv_topi (fun v3 ev3 => ?_)
    have h := h v3 ev3
    refine lv_iload_n hx hb dX4_faultOfRow_18 rfl (lv_at hl 2 rfl) ?_
    refine lv_icmp_eq (tgt := 24) hx hb dX4_faultOfRow_19 (by decide) (fun c4 => ?_) (fun c4 => ?_)
    · have h := it_use c4 h
      refine lv_iload hx hb dX4_faultOfRow_24 (lv_at hl 4 rfl) ?_
      refine lv_if_le (tgt := 50) hx hb dX4_faultOfRow_26 (by decide) (fun c5 => ?_) (fun c5 => ?_)
      · have h := it_use c5 h
        refine lv_iconst (v := 0) hx hb dX4_faultOfRow_50 (by decide) ?_
        refine lv_istore (lv' := [(5, .int (0 : Int32)), (0, .ref (a 12)), (1, .int x1), (2, .int x2), (3, .int x3), (4, .int x4)]) hx hb dX4_faultOfRow_51 hl (by decide) rfl (fun ls hl => ?_)
        refine lv_iload hx hb dX4_faultOfRow_53 (lv_at hl 0 rfl) ?_
        refine lv_if_eq (tgt := 62) hx hb dX4_faultOfRow_55 (by decide) (fun c6 => ?_) (fun c6 => ?_)
        · have h := it_use c6 h
          refine lv_iconst (v := 0) hx hb dX4_faultOfRow_62 (by decide) ?_
          obtain er := rt1_use h
          exact re_i hx hb hr hlocks hK hP hD hS er dX4_faultOfRow_63
        · have h := ie_use c6 h
          refine lv_iconst (v := 2) hx hb dX4_faultOfRow_58 (by decide) ?_
          refine lv_goto (tgt := 63) hx hb dX4_faultOfRow_59 (by decide) ?_
          obtain er := rt1_use h
          exact re_i hx hb hr hlocks hK hP hD hS er dX4_faultOfRow_63
      · have h := ie_use c5 h
        refine lv_iload_n hx hb dX4_faultOfRow_29 rfl (lv_at hl 3 rfl) ?_
        refine lv_if_lt (tgt := 46) hx hb dX4_faultOfRow_30 (by decide) (fun c7 => ?_) (fun c7 => ?_)
        · have h := it_use c7 h
          refine lv_iconst (v := 1) hx hb dX4_faultOfRow_46 (by decide) ?_
          refine lv_goto (tgt := 51) hx hb dX4_faultOfRow_47 (by decide) ?_
          refine lv_istore (lv' := [(5, .int (1 : Int32)), (0, .ref (a 12)), (1, .int x1), (2, .int x2), (3, .int x3), (4, .int x4)]) hx hb dX4_faultOfRow_51 hl (by decide) rfl (fun ls hl => ?_)
          refine lv_iload hx hb dX4_faultOfRow_53 (lv_at hl 0 rfl) ?_
          refine lv_if_eq (tgt := 62) hx hb dX4_faultOfRow_55 (by decide) (fun c8 => ?_) (fun c8 => ?_)
          · have h := it_use c8 h
            refine lv_iconst (v := 0) hx hb dX4_faultOfRow_62 (by decide) ?_
            obtain er := rt1_use h
            exact re_i hx hb hr hlocks hK hP hD hS er dX4_faultOfRow_63
          · have h := ie_use c8 h
            refine lv_iconst (v := 2) hx hb dX4_faultOfRow_58 (by decide) ?_
            refine lv_goto (tgt := 63) hx hb dX4_faultOfRow_59 (by decide) ?_
            obtain er := rt1_use h
            exact re_i hx hb hr hlocks hK hP hD hS er dX4_faultOfRow_63
        · have h := ie_use c7 h
          refine lv_iload_n hx hb dX4_faultOfRow_33 rfl (lv_at hl 3 rfl) ?_
          refine lv_aload_n hx hb dX4_faultOfRow_34 rfl (lv_at hl 0 rfl) ?_
          refine gX_sheets_sizes hx hb hts hnX4 hown hK hP hw0 dX4_faultOfRow_35 ?_
          refine lv_iload_n hx hb dX4_faultOfRow_38 rfl (lv_at hl 1 rfl) ?_
          obtain ⟨hiv9, h⟩ := ar_use h
          refine lX_sheets_sizes hx hb hK hP hiv9 dX4_faultOfRow_39 ?_
          refine lv_topi (fun v9 ev9 => ?_)
          have h := h v9 ev9
          refine lv_iload hx hb dX4_faultOfRow_40 (lv_at hl 4 rfl) ?_
          refine lv_isub hx hb dX4_faultOfRow_42 ?_
          refine lv_icmp_le (tgt := 50) hx hb dX4_faultOfRow_43 (by decide) (fun c10 => ?_) (fun c10 => ?_)
          · have h := it_use c10 h
            refine lv_iconst (v := 0) hx hb dX4_faultOfRow_50 (by decide) ?_
            refine lv_istore (lv' := [(5, .int (0 : Int32)), (0, .ref (a 12)), (1, .int x1), (2, .int x2), (3, .int x3), (4, .int x4)]) hx hb dX4_faultOfRow_51 hl (by decide) rfl (fun ls hl => ?_)
            refine lv_iload hx hb dX4_faultOfRow_53 (lv_at hl 0 rfl) ?_
            refine lv_if_eq (tgt := 62) hx hb dX4_faultOfRow_55 (by decide) (fun c11 => ?_) (fun c11 => ?_)
            · have h := it_use c11 h
              refine lv_iconst (v := 0) hx hb dX4_faultOfRow_62 (by decide) ?_
              obtain er := rt1_use h
              exact re_i hx hb hr hlocks hK hP hD hS er dX4_faultOfRow_63
            · have h := ie_use c11 h
              refine lv_iconst (v := 2) hx hb dX4_faultOfRow_58 (by decide) ?_
              refine lv_goto (tgt := 63) hx hb dX4_faultOfRow_59 (by decide) ?_
              obtain er := rt1_use h
              exact re_i hx hb hr hlocks hK hP hD hS er dX4_faultOfRow_63
          · have h := ie_use c10 h
            refine lv_iconst (v := 1) hx hb dX4_faultOfRow_46 (by decide) ?_
            refine lv_goto (tgt := 51) hx hb dX4_faultOfRow_47 (by decide) ?_
            refine lv_istore (lv' := [(5, .int (1 : Int32)), (0, .ref (a 12)), (1, .int x1), (2, .int x2), (3, .int x3), (4, .int x4)]) hx hb dX4_faultOfRow_51 hl (by decide) rfl (fun ls hl => ?_)
            refine lv_iload hx hb dX4_faultOfRow_53 (lv_at hl 0 rfl) ?_
            refine lv_if_eq (tgt := 62) hx hb dX4_faultOfRow_55 (by decide) (fun c12 => ?_) (fun c12 => ?_)
            · have h := it_use c12 h
              refine lv_iconst (v := 0) hx hb dX4_faultOfRow_62 (by decide) ?_
              obtain er := rt1_use h
              exact re_i hx hb hr hlocks hK hP hD hS er dX4_faultOfRow_63
            · have h := ie_use c12 h
              refine lv_iconst (v := 2) hx hb dX4_faultOfRow_58 (by decide) ?_
              refine lv_goto (tgt := 63) hx hb dX4_faultOfRow_59 (by decide) ?_
              obtain er := rt1_use h
              exact re_i hx hb hr hlocks hK hP hD hS er dX4_faultOfRow_63
    · have h := ie_use c4 h
      refine lv_iconst (v := 3) hx hb dX4_faultOfRow_22 (by decide) ?_
      obtain er := rt1_use h
      exact re_i hx hb hr hlocks hK hP hD hS er dX4_faultOfRow_23
  · have h := it_use c2 h
    refine lv_iconst (v := 1) hx hb dX4_faultOfRow_10 (by decide) ?_
    obtain er := rt1_use h
    exact re_i hx hb hr hlocks hK hP hD hS er dX4_faultOfRow_11
set_option maxHeartbeats 4000000 in
set_option maxRecDepth 100000 in
theorem kX4_cellAt (l : Launch) (n : Nat) (dC : Nat → ClassId) (dI : Nat → Nat → Nat) (cB cI cJ cZ : ClassId) (a : Nat → Nat) (adK adV : Nat → Nat) (sz : Nat) (ww_latestFault : Int32) (tp_bytes : Nat → Int32) (tp_size : Int32) (rd_fault : Int32) (rd_faultPlace : Int32) (rd_kind : Int32) (rd_start : Int32) (rd_at : Int32) (rd_number : Int32) (dr_letterMarks : Nat → Int32) (dr_names : Nat → Int64) (dr_spelled : Nat → Int32) (dr_rows : Nat → Int64) (dr_alike : Nat → Int32) (dr_near : Nat → Int32) (dr_asks : Nat → Int32) (dr_letters : Int32) (dr_words : Int32) (dr_askCount : Int32) (sh_lanes : Nat → Int32) (sh_sizes : Nat → Int32) (sh_cells : Nat → Int32) (la_xs : Nat → Int32) (la_ys : Nat → Int32) (la_heights : Nat → Int32) (la_ridgeXs : Nat → Int32) (la_ridgeHeights : Nat → Int32) (la_way : Nat → Int32) (la_blurs : Nat → Int32) (la_steps : Nat → Int32) (la_places : Int32) (la_ridges : Int32) (la_wayBlur : Int32) (la_wayLength : Int32) (bk_times : Nat → Int32) (bk_froms : Nat → Int32) (bk_asks : Nat → Int32) (bk_words : Nat → Int32) (bk_firsts : Nat → Int32) (bk_lies : Nat → Int32) (bk_held : Nat → Int32) (bk_size : Int32) (nu_learned : Nat → Int32) (nu_size : Int32) (to_letterMarks : Nat → Int32) (to_names : Nat → Int64) (to_spelled : Nat → Int32) (to_rows : Nat → Int64) (to_alike : Nat → Int32) (to_near : Nat → Int32) (to_asks : Nat → Int32) (to_letters : Int32) (to_words : Int32) (to_askCount : Int32) (x1 : Int32) (x2 : Int32) (r0 : Int32) (h : fX4_cellAt n sh_cells x1 x2 = some r0) : Met l yX4_cellAt wsX4_cellAt ({ frames := 0, cells := 0, slots := 0, locals := 0 }) (gP (dC, dI) (tyz cB cI cJ cZ) (E_X adK adV) (wX cB cI cJ cZ a (a 35) (a 4) ww_latestFault tp_bytes tp_size rd_fault rd_faultPlace rd_kind rd_start rd_at rd_number dr_letterMarks dr_names dr_spelled dr_rows dr_alike dr_near dr_asks dr_letters dr_words dr_askCount sh_lanes sh_sizes sh_cells la_xs la_ys la_heights la_ridgeXs la_ridgeHeights la_way la_blurs la_steps la_places la_ridges la_wayBlur la_wayLength bk_times bk_froms bk_asks bk_words bk_firsts bk_lies bk_held bk_size nu_learned nu_size to_letterMarks to_names to_spelled to_rows to_alike to_near to_asks to_letters to_words to_askCount) sz [.ref (a 12), .int x1, .int x2]) (gI (dC, dI) (tyz cB cI cJ cZ) (wX cB cI cJ cZ a (a 35) (a 4) ww_latestFault tp_bytes tp_size rd_fault rd_faultPlace rd_kind rd_start rd_at rd_number dr_letterMarks dr_names dr_spelled dr_rows dr_alike dr_near dr_asks dr_letters dr_words dr_askCount sh_lanes sh_sizes sh_cells la_xs la_ys la_heights la_ridgeXs la_ridgeHeights la_way la_blurs la_steps la_places la_ridges la_wayBlur la_wayLength bk_times bk_froms bk_asks bk_words bk_firsts bk_lies bk_held bk_size nu_learned nu_size to_letterMarks to_names to_spelled to_rows to_alike to_near to_asks to_letters to_words to_askCount) (va_A (wX cB cI cJ cZ a (a 35) (a 4) ww_latestFault tp_bytes tp_size rd_fault rd_faultPlace rd_kind rd_start rd_at rd_number dr_letterMarks dr_names dr_spelled dr_rows dr_alike dr_near dr_asks dr_letters dr_words dr_askCount sh_lanes sh_sizes sh_cells la_xs la_ys la_heights la_ridgeXs la_ridgeHeights la_way la_blurs la_steps la_places la_ridges la_wayBlur la_wayLength bk_times bk_froms bk_asks bk_words bk_firsts bk_lies bk_held bk_size nu_learned nu_size to_letterMarks to_names to_spelled to_rows to_alike to_near to_asks to_letters to_words to_askCount) sz) r0) 0 0 (va_A (wX cB cI cJ cZ a (a 35) (a 4) ww_latestFault tp_bytes tp_size rd_fault rd_faultPlace rd_kind rd_start rd_at rd_number dr_letterMarks dr_names dr_spelled dr_rows dr_alike dr_near dr_asks dr_letters dr_words dr_askCount sh_lanes sh_sizes sh_cells la_xs la_ys la_heights la_ridgeXs la_ridgeHeights la_way la_blurs la_steps la_places la_ridges la_wayBlur la_wayLength bk_times bk_froms bk_asks bk_words bk_firsts bk_lies bk_held bk_size nu_learned nu_size to_letterMarks to_names to_spelled to_rows to_alike to_near to_asks to_letters to_words to_askCount) sz) := by
  refine Met.ofW (cc := cX4_cellAt) (maxL := 3) (ret := (some .int)) (by decide) rfl ?_
  intro p e s m args below meth c s₁ B hml hv
  obtain ⟨rfl, hsz, hP, hK, hD0, hE⟩ := hv
  have hx := B.exec
  have hb := B.bytes
  have hr := B.returns
  have hts := atoms_spec (ws := wsX4_cellAt) B.pre
  have hown : s.vm.findClass RX4 = some m.cls := findClass_of_methodNamed B.named
  have hlocks := B.notSynchronized
  subst hsz
  have hD := hD0.self (sz := s.heap.size)
  have hA : ∀ q : Nat, s.heap.size ≤ q → va_A (wX cB cI cJ cZ a (a 35) (a 4) ww_latestFault tp_bytes tp_size rd_fault rd_faultPlace rd_kind rd_start rd_at rd_number dr_letterMarks dr_names dr_spelled dr_rows dr_alike dr_near dr_asks dr_letters dr_words dr_askCount sh_lanes sh_sizes sh_cells la_xs la_ys la_heights la_ridgeXs la_ridgeHeights la_way la_blurs la_steps la_places la_ridges la_wayBlur la_wayLength bk_times bk_froms bk_asks bk_words bk_firsts bk_lies bk_held bk_size nu_learned nu_size to_letterMarks to_names to_spelled to_rows to_alike to_near to_asks to_letters to_words to_askCount) s.heap.size q := fun q h => Or.inr h
  generalize va_A (wX cB cI cJ cZ a (a 35) (a 4) ww_latestFault tp_bytes tp_size rd_fault rd_faultPlace rd_kind rd_start rd_at rd_number dr_letterMarks dr_names dr_spelled dr_rows dr_alike dr_near dr_asks dr_letters dr_words dr_askCount sh_lanes sh_sizes sh_cells la_xs la_ys la_heights la_ridgeXs la_ridgeHeights la_way la_blurs la_steps la_places la_ridges la_wayBlur la_wayLength bk_times bk_froms bk_asks bk_words bk_firsts bk_lies bk_held bk_size nu_learned nu_size to_letterMarks to_names to_spelled to_rows to_alike to_near to_asks to_letters to_words to_askCount) s.heap.size = A at hD hA hE ⊢
  have hS : va_S A s.heap s.heap [] := va_S.rf
  have C0 : cxt cX4_cellAt (some .int) 3 RX4 wsX4_cellAt (dC, dI) (tyz cB cI cJ cZ) (E_X adK adV) A p s m ([.ref (a 12), .int x1, .int x2] : List Value).toArray meth c := ⟨hx, hb, hr, hml, hown, hts, hlocks, hK, hA, hE⟩
  have hl := lv_entry ([.ref (a 12), .int x1, .int x2]) (n := 3) (Nat.le_of_ble_eq_true rfl)
  rw [lg_entry_eq]
  generalize (lg_sl ([.ref (a 12), .int x1, .int x2]) ++ List.replicate (3 - (lg_sl ([.ref (a 12), .int x1, .int x2])).length) Slot.unset).toArray = ls at hl ⊢
  have hl : lv_has ls 3 [(0, .ref (a 12)), (1, .int x1), (2, .int x2)] := hl
  have hw0 := hts (.fieldLink RX4 24 "WhistledWords$Sheets" "cells" "[I") (by decide +kernel)
  have hnX4 : ∀ w ∈ u_ws RX4 TX4 3, w ∈ wsX4_cellAt := fun _ h => List.mem_cons_of_mem _ (List.mem_append_right _ h)
  unfold fX4_cellAt at h
  refine lv_aload_n hx hb dX4_cellAt_0 rfl (lv_at hl 0 rfl) ?_
  refine gX_sheets_cells hx hb hts hnX4 hown hK hP hw0 dX4_cellAt_1 ?_
  refine lv_iload_n hx hb dX4_cellAt_4 rfl (lv_at hl 1 rfl) ?_
  refine lv_bipush (v := 60) hx hb dX4_cellAt_5 (by decide) ?_
  refine lv_imul hx hb dX4_cellAt_7 ?_
  refine lv_iload_n hx hb dX4_cellAt_8 rfl (lv_at hl 2 rfl) ?_
  refine lv_iadd hx hb dX4_cellAt_9 ?_
  obtain ⟨hiv1, h⟩ := ar_use h
  refine lX_sheets_cells hx hb hK hP hiv1 dX4_cellAt_10 ?_
  refine lv_topi (fun v1 ev1 => ?_)
  have h := h v1 ev1
  obtain er := rt1_use h
  exact re_i hx hb hr hlocks hK hP hD hS er dX4_cellAt_11
set_option maxHeartbeats 4000000 in
set_option maxRecDepth 100000 in
theorem kX3_isMark (l : Launch) (n : Nat) (x0 : Int32) (r0 : Int32) (h : fX3_isMark n  x0 = some r0) : Met l yX3_isMark wsX3_isMark ({ frames := 0, cells := 0, slots := 0, locals := 0 }) (pP [.int x0]) (pI r0) 0 0 no_A := by
  refine Met.ofW (cc := cX3_isMark) (maxL := 1) (ret := (some .boolean)) (by decide) rfl ?_
  intro p e s m args below meth c s₁ B hml hv
  obtain ⟨rfl, -⟩ := hv
  have hx := B.exec
  have hb := B.bytes
  have hr := B.returns
  have hts := atoms_spec (ws := wsX3_isMark) B.pre
  have hown : s.vm.findClass RX3 = some m.cls := findClass_of_methodNamed B.named
  have hlocks := B.notSynchronized
  have hS : va_S no_A s.heap s.heap [] := va_S.rf
  have C0 : cxp cX3_isMark (some .boolean) 1 RX3 wsX3_isMark p s m ([.int x0] : List Value).toArray meth c := ⟨hx, hb, hr, hml, hown, hts, hlocks⟩
  have hl := lv_entry ([.int x0]) (n := 1) (Nat.le_of_ble_eq_true rfl)
  rw [lg_entry_eq]
  generalize (lg_sl ([.int x0]) ++ List.replicate (1 - (lg_sl ([.int x0])).length) Slot.unset).toArray = ls at hl ⊢
  have hl : lv_has ls 1 [(0, .int x0)] := hl
  unfold fX3_isMark at h
  refine lv_iload_n hx hb dX3_isMark_0 rfl (lv_at hl 0 rfl) ?_
  refine lv_if_lt (tgt := 14) hx hb dX3_isMark_1 (by decide) (fun c1 => ?_) (fun c1 => ?_)
  · have h := it_use c1 h
    refine lv_iconst (v := 0) hx hb dX3_isMark_14 (by decide) ?_
    obtain er := rt1_use h
    exact rp_z hx hb hr hlocks hS (Or.inl rfl) er dX3_isMark_15
  · have h := ie_use c1 h
    refine lv_iload_n hx hb dX3_isMark_4 rfl (lv_at hl 0 rfl) ?_
    refine lv_bipush (v := 20) hx hb dX3_isMark_5 (by decide) ?_
    refine lv_icmp_gt (tgt := 14) hx hb dX3_isMark_7 (by decide) (fun c2 => ?_) (fun c2 => ?_)
    · have h := it_use c2 h
      refine lv_iconst (v := 0) hx hb dX3_isMark_14 (by decide) ?_
      obtain er := rt1_use h
      exact rp_z hx hb hr hlocks hS (Or.inl rfl) er dX3_isMark_15
    · have h := ie_use c2 h
      refine lv_iconst (v := 1) hx hb dX3_isMark_10 (by decide) ?_
      refine lv_goto (tgt := 15) hx hb dX3_isMark_11 (by decide) ?_
      obtain er := rt1_use h
      exact rp_z hx hb hr hlocks hS (Or.inr rfl) er dX3_isMark_15
set_option maxHeartbeats 4000000 in
set_option maxRecDepth 100000 in
theorem kX3_with (l : Launch) (n : Nat) (x0 : Int64) (x2 : Int32) (x3 : Int32) (r0 : Int64) (h : fX3_with n  x0 x2 x3 = some r0) : Met l yX3_with wsX3_with ({ frames := 0, cells := 0, slots := 0, locals := 0 }) (pP [.long x0, .int x2, .int x3]) (pL r0) 0 0 no_A := by
  refine Met.ofW (cc := cX3_with) (maxL := 4) (ret := (some .long)) (by decide) rfl ?_
  intro p e s m args below meth c s₁ B hml hv
  obtain ⟨rfl, -⟩ := hv
  have hx := B.exec
  have hb := B.bytes
  have hr := B.returns
  have hts := atoms_spec (ws := wsX3_with) B.pre
  have hown : s.vm.findClass RX3 = some m.cls := findClass_of_methodNamed B.named
  have hlocks := B.notSynchronized
  have hS : va_S no_A s.heap s.heap [] := va_S.rf
  have C0 : cxp cX3_with (some .long) 4 RX3 wsX3_with p s m ([.long x0, .int x2, .int x3] : List Value).toArray meth c := ⟨hx, hb, hr, hml, hown, hts, hlocks⟩
  have hl := lv_entry ([.long x0, .int x2, .int x3]) (n := 4) (Nat.le_of_ble_eq_true rfl)
  rw [lg_entry_eq]
  generalize (lg_sl ([.long x0, .int x2, .int x3]) ++ List.replicate (4 - (lg_sl ([.long x0, .int x2, .int x3])).length) Slot.unset).toArray = ls at hl ⊢
  have hl : lv_has ls 4 [(0, .long x0), (2, .int x2), (3, .int x3)] := hl
  unfold fX3_with at h
  refine lv_lload_n hx hb dX3_with_0 rfl (lv_at hl 0 rfl) ?_
  refine lv_iload_n hx hb dX3_with_1 rfl (lv_at hl 2 rfl) ?_
  refine lv_iconst (v := 1) hx hb dX3_with_2 (by decide) ?_
  refine lv_iadd hx hb dX3_with_3 ?_
  refine lv_i2l hx hb dX3_with_4 rfl ?_
  refine lv_iconst (v := 5) hx hb dX3_with_5 (by decide) ?_
  refine lv_iload_n hx hb dX3_with_6 rfl (lv_at hl 1 rfl) ?_
  refine lv_imul hx hb dX3_with_7 ?_
  refine lv_lshl hx hb dX3_with_8 rfl ?_
  refine lv_lor hx hb dX3_with_9 ?_
  obtain er := rt1_use h
  exact rp_l hx hb hr hlocks hS er dX3_with_10
set_option maxHeartbeats 4000000 in
set_option maxRecDepth 100000 in
theorem kX7_withRow_p6_r {p : Program} {l : Launch} {e : Env} {s : State} {m : MethodId} {args : Array Value} {below : List Frame} {meth : Method} {c : Code} {A : Nat → Prop} (dC : Nat → ClassId) (dI : Nat → Nat → Nat) (cB cI cJ cZ : ClassId) (a : Nat → Nat) (adK adV : Nat → Nat) (C0 : cxt cX7_withRow (some .int) 6 RX7 wsX7_withRow (dC, dI) (tyz cB cI cJ cZ) (E_X adK adV) A p s m args meth c) (n : Nat) (ww_latestFault : Int32) (tp_bytes : Nat → Int32) (tp_size : Int32) (rd_fault : Int32) (rd_faultPlace : Int32) (rd_kind : Int32) (rd_start : Int32) (rd_at : Int32) (rd_number : Int32) (dr_letterMarks : Nat → Int32) (dr_names : Nat → Int64) (dr_spelled : Nat → Int32) (dr_rows : Nat → Int64) (dr_alike : Nat → Int32) (dr_near : Nat → Int32) (dr_asks : Nat → Int32) (dr_letters : Int32) (dr_words : Int32) (dr_askCount : Int32) (sh_lanes : Nat → Int32) (sh_sizes : Nat → Int32) (sh_cells : Nat → Int32) (la_xs : Nat → Int32) (la_ys : Nat → Int32) (la_heights : Nat → Int32) (la_ridgeXs : Nat → Int32) (la_ridgeHeights : Nat → Int32) (la_way : Nat → Int32) (la_blurs : Nat → Int32) (la_steps : Nat → Int32) (la_places : Int32) (la_ridges : Int32) (la_wayBlur : Int32) (la_wayLength : Int32) (bk_times : Nat → Int32) (bk_froms : Nat → Int32) (bk_asks : Nat → Int32) (bk_words : Nat → Int32) (bk_firsts : Nat → Int32) (bk_lies : Nat → Int32) (bk_held : Nat → Int32) (bk_size : Int32) (nu_learned : Nat → Int32) (nu_size : Int32) (to_letterMarks : Nat → Int32) (to_names : Nat → Int64) (to_spelled : Nat → Int32) (to_rows : Nat → Int64) (to_alike : Nat → Int32) (to_near : Nat → Int32) (to_asks : Nat → Int32) (to_letters : Int32) (to_words : Int32) (to_askCount : Int32) (x1 : Int32) (x2 : Int64) (r0 : Int32)  : ∀ (k : Nat) (x4 : Int32) (x5 : Int32) (H : Heap) (locs : List Loc) (ls : Array Slot), fX7_withRow_p6 n to_rows to_words x1 x2 k x4 x5 = some r0 → va_P (dC, dI) vwCl (wX cB cI cJ cZ a (a 35) (a 4) ww_latestFault tp_bytes tp_size rd_fault rd_faultPlace rd_kind rd_start rd_at rd_number dr_letterMarks dr_names dr_spelled dr_rows dr_alike dr_near dr_asks dr_letters dr_words dr_askCount sh_lanes sh_sizes sh_cells la_xs la_ys la_heights la_ridgeXs la_ridgeHeights la_way la_blurs la_steps la_places la_ridges la_wayBlur la_wayLength bk_times bk_froms bk_asks bk_words bk_firsts bk_lies bk_held bk_size nu_learned nu_size to_letterMarks to_names to_spelled to_rows to_alike to_near to_asks to_letters to_words to_askCount) H → va_D A (wX cB cI cJ cZ a (a 35) (a 4) ww_latestFault tp_bytes tp_size rd_fault rd_faultPlace rd_kind rd_start rd_at rd_number dr_letterMarks dr_names dr_spelled dr_rows dr_alike dr_near dr_asks dr_letters dr_words dr_askCount sh_lanes sh_sizes sh_cells la_xs la_ys la_heights la_ridgeXs la_ridgeHeights la_way la_blurs la_steps la_places la_ridges la_wayBlur la_wayLength bk_times bk_froms bk_asks bk_words bk_firsts bk_lies bk_held bk_size nu_learned nu_size to_letterMarks to_names to_spelled to_rows to_alike to_near to_asks to_letters to_words to_askCount) → va_S A s.heap H locs → lv_has ls 6 [(0, .ref (a 35)), (1, .int x1), (2, .long x2), (4, .int x4), (5, .int x5)] → W p l e { frames := 1, cells := 0, slots := 0, locals := 22 } s m args below meth c H locs 0 0 (MQ below (gI (dC, dI) (tyz cB cI cJ cZ) (wX cB cI cJ cZ a (a 35) (a 4) ww_latestFault tp_bytes tp_size rd_fault rd_faultPlace rd_kind rd_start rd_at rd_number dr_letterMarks dr_names dr_spelled dr_rows dr_alike dr_near dr_asks dr_letters dr_words dr_askCount sh_lanes sh_sizes sh_cells la_xs la_ys la_heights la_ridgeXs la_ridgeHeights la_way la_blurs la_steps la_places la_ridges la_wayBlur la_wayLength bk_times bk_froms bk_asks bk_words bk_firsts bk_lies bk_held bk_size nu_learned nu_size to_letterMarks to_names to_spelled to_rows to_alike to_near to_asks to_letters to_words to_askCount) A r0) args s 0 0 A) (F0 m 6 ls []) := by
  obtain ⟨hx, hb, hr, hml, hown, hts, hlocks, hK, hA, hE⟩ := id C0
  have hw0 := hts (.fieldLink RX7 44 "WhistledWords$Tongue" "words" "I") (by decide +kernel)
  have hnX7 : ∀ w ∈ u_ws RX7 TX7 10, w ∈ wsX7_withRow := fun _ h => List.mem_cons_of_mem _ (List.mem_append_right _ h)
  intro k
  induction k with
  | zero =>
    intro x4 x5 H locs ls h
    cases h
  | succ k ih =>
    intro x4 x5 H locs ls h hP hD hS hl
    rw [fX7_withRow_p6] at h
    refine lv_iload hx hb dX7_withRow_6 (lv_at hl 4 rfl) ?_
    refine lv_aload_n hx hb dX7_withRow_8 rfl (lv_at hl 0 rfl) ?_
    refine gX_told_words hx hb hts hnX7 hown hK hP hw0 dX7_withRow_9 ?_
    refine lv_icmp_ge (tgt := 42) hx hb dX7_withRow_12 (by decide) (fun c1 => ?_) (fun c1 => ?_)
    · have h := it_use c1 h
      refine lv_iload hx hb dX7_withRow_42 (lv_at hl 3 rfl) ?_
      obtain er := rt1_use h
      exact re_i hx hb hr hlocks hK hP hD hS er dX7_withRow_44
    · have h := ie_use c1 h
      refine lv_aload_n hx hb dX7_withRow_15 rfl (lv_at hl 0 rfl) ?_
      refine lv_iload_n hx hb dX7_withRow_16 rfl (lv_at hl 1 rfl) ?_
      refine lv_iload hx hb dX7_withRow_17 (lv_at hl 4 rfl) ?_
      obtain ⟨v2, hc, h⟩ := bd1_use h
      refine cv_l (As := [.int x1, .int x5]) (rest := []) ⟨hx, hb, hml, hown, hts⟩ (kX7_rowAt l n dC dI cB cI cJ cZ a adK adV _ ww_latestFault tp_bytes tp_size rd_fault rd_faultPlace rd_kind rd_start rd_at rd_number dr_letterMarks dr_names dr_spelled dr_rows dr_alike dr_near dr_asks dr_letters dr_words dr_askCount sh_lanes sh_sizes sh_cells la_xs la_ys la_heights la_ridgeXs la_ridgeHeights la_way la_blurs la_steps la_places la_ridges la_wayBlur la_wayLength bk_times bk_froms bk_asks bk_words bk_firsts bk_lies bk_held bk_size nu_learned nu_size to_letterMarks to_names to_spelled to_rows to_alike to_near to_asks to_letters to_words to_askCount x1 x5 v2 hc) (cwV 2 hts gX7_withRow_X7_rowAt rfl rfl rfl (by decide +kernel) ⟨Nat.le_of_ble_eq_true rfl, Nat.le_of_ble_eq_true rfl⟩) EB_X hE hK hP hD hS hA 35 (ci := 6) rfl rfl rfl rfl hl.1 rfl (Nat.le_of_ble_eq_true rfl) dX7_withRow_19 ⟨Nat.zero_le _, Nat.zero_le _⟩ (fun H locs hP hD hS => ?_)
      refine lv_lload_n hx hb dX7_withRow_22 rfl (lv_at hl 2 rfl) ?_
      refine W.lcmp hx hb dX7_withRow_23 ?_
      refine lv_if_ne (tgt := 36) hx hb dX7_withRow_24 (by decide) (fun c3 => ?_) (fun c3 => ?_)
      · have h := ie_use c3 h
        refine lv_iinc (v := x5 + 1) (lv' := [(5, .int (x5 + 1)), (0, .ref (a 35)), (1, .int x1), (2, .long x2), (4, .int x4)]) hx hb dX7_withRow_36 hl (k := 4) rfl rfl (by decide) rfl (fun ls hl => ?_)
        refine lv_goto (tgt := 6) hx hb dX7_withRow_39 (by decide) ?_
        exact ih x4 (x5 + 1) _ _ ls h hP hD hS (lv_sub hl [1, 2, 3, 4, 0] rfl)
      · have h := it_use c3 h
        refine lv_iload hx hb dX7_withRow_27 (lv_at hl 3 rfl) ?_
        refine lv_iconst (v := 1) hx hb dX7_withRow_29 (by decide) ?_
        refine lv_iload hx hb dX7_withRow_30 (lv_at hl 4 rfl) ?_
        refine lv_ishl hx hb dX7_withRow_32 ?_
        refine lv_ior hx hb dX7_withRow_33 ?_
        refine lv_topi (fun v4 ev4 => ?_)
        have h := nm_use ev4 h
        refine lv_istore (lv' := [(4, .int v4), (0, .ref (a 35)), (1, .int x1), (2, .long x2), (5, .int x5)]) hx hb dX7_withRow_34 hl (by decide) rfl (fun ls hl => ?_)
        refine lv_iinc (v := x5 + 1) (lv' := [(5, .int (x5 + 1)), (4, .int v4), (0, .ref (a 35)), (1, .int x1), (2, .long x2)]) hx hb dX7_withRow_36 hl (k := 4) rfl rfl (by decide) rfl (fun ls hl => ?_)
        refine lv_goto (tgt := 6) hx hb dX7_withRow_39 (by decide) ?_
        exact ih v4 (x5 + 1) _ _ ls h hP hD hS (lv_sub hl [2, 3, 4, 1, 0] rfl)
theorem kX7_withRow_p6 {p : Program} {l : Launch} {e : Env} {s : State} {m : MethodId} {args : Array Value} {below : List Frame} {meth : Method} {c : Code} {A : Nat → Prop} (dC : Nat → ClassId) (dI : Nat → Nat → Nat) (cB cI cJ cZ : ClassId) (a : Nat → Nat) (adK adV : Nat → Nat) (C0 : cxt cX7_withRow (some .int) 6 RX7 wsX7_withRow (dC, dI) (tyz cB cI cJ cZ) (E_X adK adV) A p s m args meth c) (n : Nat) (ww_latestFault : Int32) (tp_bytes : Nat → Int32) (tp_size : Int32) (rd_fault : Int32) (rd_faultPlace : Int32) (rd_kind : Int32) (rd_start : Int32) (rd_at : Int32) (rd_number : Int32) (dr_letterMarks : Nat → Int32) (dr_names : Nat → Int64) (dr_spelled : Nat → Int32) (dr_rows : Nat → Int64) (dr_alike : Nat → Int32) (dr_near : Nat → Int32) (dr_asks : Nat → Int32) (dr_letters : Int32) (dr_words : Int32) (dr_askCount : Int32) (sh_lanes : Nat → Int32) (sh_sizes : Nat → Int32) (sh_cells : Nat → Int32) (la_xs : Nat → Int32) (la_ys : Nat → Int32) (la_heights : Nat → Int32) (la_ridgeXs : Nat → Int32) (la_ridgeHeights : Nat → Int32) (la_way : Nat → Int32) (la_blurs : Nat → Int32) (la_steps : Nat → Int32) (la_places : Int32) (la_ridges : Int32) (la_wayBlur : Int32) (la_wayLength : Int32) (bk_times : Nat → Int32) (bk_froms : Nat → Int32) (bk_asks : Nat → Int32) (bk_words : Nat → Int32) (bk_firsts : Nat → Int32) (bk_lies : Nat → Int32) (bk_held : Nat → Int32) (bk_size : Int32) (nu_learned : Nat → Int32) (nu_size : Int32) (to_letterMarks : Nat → Int32) (to_names : Nat → Int64) (to_spelled : Nat → Int32) (to_rows : Nat → Int64) (to_alike : Nat → Int32) (to_near : Nat → Int32) (to_asks : Nat → Int32) (to_letters : Int32) (to_words : Int32) (to_askCount : Int32)  (x1 : Int32) (x2 : Int64) (x4 : Int32) (x5 : Int32) (r0 : Int32)  (k : Nat) (H : Heap) (locs : List Loc) (ls : Array Slot) : fX7_withRow_p6 n to_rows to_words x1 x2 k x4 x5 = some r0 → va_P (dC, dI) vwCl (wX cB cI cJ cZ a (a 35) (a 4) ww_latestFault tp_bytes tp_size rd_fault rd_faultPlace rd_kind rd_start rd_at rd_number dr_letterMarks dr_names dr_spelled dr_rows dr_alike dr_near dr_asks dr_letters dr_words dr_askCount sh_lanes sh_sizes sh_cells la_xs la_ys la_heights la_ridgeXs la_ridgeHeights la_way la_blurs la_steps la_places la_ridges la_wayBlur la_wayLength bk_times bk_froms bk_asks bk_words bk_firsts bk_lies bk_held bk_size nu_learned nu_size to_letterMarks to_names to_spelled to_rows to_alike to_near to_asks to_letters to_words to_askCount) H → va_D A (wX cB cI cJ cZ a (a 35) (a 4) ww_latestFault tp_bytes tp_size rd_fault rd_faultPlace rd_kind rd_start rd_at rd_number dr_letterMarks dr_names dr_spelled dr_rows dr_alike dr_near dr_asks dr_letters dr_words dr_askCount sh_lanes sh_sizes sh_cells la_xs la_ys la_heights la_ridgeXs la_ridgeHeights la_way la_blurs la_steps la_places la_ridges la_wayBlur la_wayLength bk_times bk_froms bk_asks bk_words bk_firsts bk_lies bk_held bk_size nu_learned nu_size to_letterMarks to_names to_spelled to_rows to_alike to_near to_asks to_letters to_words to_askCount) → va_S A s.heap H locs → lv_has ls 6 [(0, .ref (a 35)), (1, .int x1), (2, .long x2), (4, .int x4), (5, .int x5)] → W p l e { frames := 1, cells := 0, slots := 0, locals := 22 } s m args below meth c H locs 0 0 (MQ below (gI (dC, dI) (tyz cB cI cJ cZ) (wX cB cI cJ cZ a (a 35) (a 4) ww_latestFault tp_bytes tp_size rd_fault rd_faultPlace rd_kind rd_start rd_at rd_number dr_letterMarks dr_names dr_spelled dr_rows dr_alike dr_near dr_asks dr_letters dr_words dr_askCount sh_lanes sh_sizes sh_cells la_xs la_ys la_heights la_ridgeXs la_ridgeHeights la_way la_blurs la_steps la_places la_ridges la_wayBlur la_wayLength bk_times bk_froms bk_asks bk_words bk_firsts bk_lies bk_held bk_size nu_learned nu_size to_letterMarks to_names to_spelled to_rows to_alike to_near to_asks to_letters to_words to_askCount) A r0) args s 0 0 A) (F0 m 6 ls []) :=
  kX7_withRow_p6_r dC dI cB cI cJ cZ a adK adV C0 n ww_latestFault tp_bytes tp_size rd_fault rd_faultPlace rd_kind rd_start rd_at rd_number dr_letterMarks dr_names dr_spelled dr_rows dr_alike dr_near dr_asks dr_letters dr_words dr_askCount sh_lanes sh_sizes sh_cells la_xs la_ys la_heights la_ridgeXs la_ridgeHeights la_way la_blurs la_steps la_places la_ridges la_wayBlur la_wayLength bk_times bk_froms bk_asks bk_words bk_firsts bk_lies bk_held bk_size nu_learned nu_size to_letterMarks to_names to_spelled to_rows to_alike to_near to_asks to_letters to_words to_askCount x1 x2 r0  k x4 x5 H locs ls
set_option maxHeartbeats 4000000 in
set_option maxRecDepth 100000 in
theorem kX7_withRow (l : Launch) (n : Nat) (dC : Nat → ClassId) (dI : Nat → Nat → Nat) (cB cI cJ cZ : ClassId) (a : Nat → Nat) (adK adV : Nat → Nat) (sz : Nat) (ww_latestFault : Int32) (tp_bytes : Nat → Int32) (tp_size : Int32) (rd_fault : Int32) (rd_faultPlace : Int32) (rd_kind : Int32) (rd_start : Int32) (rd_at : Int32) (rd_number : Int32) (dr_letterMarks : Nat → Int32) (dr_names : Nat → Int64) (dr_spelled : Nat → Int32) (dr_rows : Nat → Int64) (dr_alike : Nat → Int32) (dr_near : Nat → Int32) (dr_asks : Nat → Int32) (dr_letters : Int32) (dr_words : Int32) (dr_askCount : Int32) (sh_lanes : Nat → Int32) (sh_sizes : Nat → Int32) (sh_cells : Nat → Int32) (la_xs : Nat → Int32) (la_ys : Nat → Int32) (la_heights : Nat → Int32) (la_ridgeXs : Nat → Int32) (la_ridgeHeights : Nat → Int32) (la_way : Nat → Int32) (la_blurs : Nat → Int32) (la_steps : Nat → Int32) (la_places : Int32) (la_ridges : Int32) (la_wayBlur : Int32) (la_wayLength : Int32) (bk_times : Nat → Int32) (bk_froms : Nat → Int32) (bk_asks : Nat → Int32) (bk_words : Nat → Int32) (bk_firsts : Nat → Int32) (bk_lies : Nat → Int32) (bk_held : Nat → Int32) (bk_size : Int32) (nu_learned : Nat → Int32) (nu_size : Int32) (to_letterMarks : Nat → Int32) (to_names : Nat → Int64) (to_spelled : Nat → Int32) (to_rows : Nat → Int64) (to_alike : Nat → Int32) (to_near : Nat → Int32) (to_asks : Nat → Int32) (to_letters : Int32) (to_words : Int32) (to_askCount : Int32) (x1 : Int32) (x2 : Int64) (r0 : Int32) (h : fX7_withRow n to_rows to_words x1 x2 = some r0) : Met l yX7_withRow wsX7_withRow ({ frames := 1, cells := 0, slots := 0, locals := 22 }) (gP (dC, dI) (tyz cB cI cJ cZ) (E_X adK adV) (wX cB cI cJ cZ a (a 35) (a 4) ww_latestFault tp_bytes tp_size rd_fault rd_faultPlace rd_kind rd_start rd_at rd_number dr_letterMarks dr_names dr_spelled dr_rows dr_alike dr_near dr_asks dr_letters dr_words dr_askCount sh_lanes sh_sizes sh_cells la_xs la_ys la_heights la_ridgeXs la_ridgeHeights la_way la_blurs la_steps la_places la_ridges la_wayBlur la_wayLength bk_times bk_froms bk_asks bk_words bk_firsts bk_lies bk_held bk_size nu_learned nu_size to_letterMarks to_names to_spelled to_rows to_alike to_near to_asks to_letters to_words to_askCount) sz [.ref (a 35), .int x1, .long x2]) (gI (dC, dI) (tyz cB cI cJ cZ) (wX cB cI cJ cZ a (a 35) (a 4) ww_latestFault tp_bytes tp_size rd_fault rd_faultPlace rd_kind rd_start rd_at rd_number dr_letterMarks dr_names dr_spelled dr_rows dr_alike dr_near dr_asks dr_letters dr_words dr_askCount sh_lanes sh_sizes sh_cells la_xs la_ys la_heights la_ridgeXs la_ridgeHeights la_way la_blurs la_steps la_places la_ridges la_wayBlur la_wayLength bk_times bk_froms bk_asks bk_words bk_firsts bk_lies bk_held bk_size nu_learned nu_size to_letterMarks to_names to_spelled to_rows to_alike to_near to_asks to_letters to_words to_askCount) (va_A (wX cB cI cJ cZ a (a 35) (a 4) ww_latestFault tp_bytes tp_size rd_fault rd_faultPlace rd_kind rd_start rd_at rd_number dr_letterMarks dr_names dr_spelled dr_rows dr_alike dr_near dr_asks dr_letters dr_words dr_askCount sh_lanes sh_sizes sh_cells la_xs la_ys la_heights la_ridgeXs la_ridgeHeights la_way la_blurs la_steps la_places la_ridges la_wayBlur la_wayLength bk_times bk_froms bk_asks bk_words bk_firsts bk_lies bk_held bk_size nu_learned nu_size to_letterMarks to_names to_spelled to_rows to_alike to_near to_asks to_letters to_words to_askCount) sz) r0) 0 0 (va_A (wX cB cI cJ cZ a (a 35) (a 4) ww_latestFault tp_bytes tp_size rd_fault rd_faultPlace rd_kind rd_start rd_at rd_number dr_letterMarks dr_names dr_spelled dr_rows dr_alike dr_near dr_asks dr_letters dr_words dr_askCount sh_lanes sh_sizes sh_cells la_xs la_ys la_heights la_ridgeXs la_ridgeHeights la_way la_blurs la_steps la_places la_ridges la_wayBlur la_wayLength bk_times bk_froms bk_asks bk_words bk_firsts bk_lies bk_held bk_size nu_learned nu_size to_letterMarks to_names to_spelled to_rows to_alike to_near to_asks to_letters to_words to_askCount) sz) := by
  refine Met.ofW (cc := cX7_withRow) (maxL := 6) (ret := (some .int)) (by decide) rfl ?_
  intro p e s m args below meth c s₁ B hml hv
  obtain ⟨rfl, hsz, hP, hK, hD0, hE⟩ := hv
  have hx := B.exec
  have hb := B.bytes
  have hr := B.returns
  have hts := atoms_spec (ws := wsX7_withRow) B.pre
  have hown : s.vm.findClass RX7 = some m.cls := findClass_of_methodNamed B.named
  have hlocks := B.notSynchronized
  subst hsz
  have hD := hD0.self (sz := s.heap.size)
  have hA : ∀ q : Nat, s.heap.size ≤ q → va_A (wX cB cI cJ cZ a (a 35) (a 4) ww_latestFault tp_bytes tp_size rd_fault rd_faultPlace rd_kind rd_start rd_at rd_number dr_letterMarks dr_names dr_spelled dr_rows dr_alike dr_near dr_asks dr_letters dr_words dr_askCount sh_lanes sh_sizes sh_cells la_xs la_ys la_heights la_ridgeXs la_ridgeHeights la_way la_blurs la_steps la_places la_ridges la_wayBlur la_wayLength bk_times bk_froms bk_asks bk_words bk_firsts bk_lies bk_held bk_size nu_learned nu_size to_letterMarks to_names to_spelled to_rows to_alike to_near to_asks to_letters to_words to_askCount) s.heap.size q := fun q h => Or.inr h
  generalize va_A (wX cB cI cJ cZ a (a 35) (a 4) ww_latestFault tp_bytes tp_size rd_fault rd_faultPlace rd_kind rd_start rd_at rd_number dr_letterMarks dr_names dr_spelled dr_rows dr_alike dr_near dr_asks dr_letters dr_words dr_askCount sh_lanes sh_sizes sh_cells la_xs la_ys la_heights la_ridgeXs la_ridgeHeights la_way la_blurs la_steps la_places la_ridges la_wayBlur la_wayLength bk_times bk_froms bk_asks bk_words bk_firsts bk_lies bk_held bk_size nu_learned nu_size to_letterMarks to_names to_spelled to_rows to_alike to_near to_asks to_letters to_words to_askCount) s.heap.size = A at hD hA hE ⊢
  have hS : va_S A s.heap s.heap [] := va_S.rf
  have C0 : cxt cX7_withRow (some .int) 6 RX7 wsX7_withRow (dC, dI) (tyz cB cI cJ cZ) (E_X adK adV) A p s m ([.ref (a 35), .int x1, .long x2] : List Value).toArray meth c := ⟨hx, hb, hr, hml, hown, hts, hlocks, hK, hA, hE⟩
  have hl := lv_entry ([.ref (a 35), .int x1, .long x2]) (n := 6) (Nat.le_of_ble_eq_true rfl)
  rw [lg_entry_eq]
  generalize (lg_sl ([.ref (a 35), .int x1, .long x2]) ++ List.replicate (6 - (lg_sl ([.ref (a 35), .int x1, .long x2])).length) Slot.unset).toArray = ls at hl ⊢
  have hl : lv_has ls 6 [(0, .ref (a 35)), (1, .int x1), (2, .long x2)] := hl
  unfold fX7_withRow at h
  refine lv_iconst (v := 0) hx hb dX7_withRow_0 (by decide) ?_
  refine lv_istore (lv' := [(4, .int (0 : Int32)), (0, .ref (a 35)), (1, .int x1), (2, .long x2)]) hx hb dX7_withRow_1 hl (by decide) rfl (fun ls hl => ?_)
  refine lv_iconst (v := 0) hx hb dX7_withRow_3 (by decide) ?_
  refine lv_istore (lv' := [(5, .int (0 : Int32)), (4, .int (0 : Int32)), (0, .ref (a 35)), (1, .int x1), (2, .long x2)]) hx hb dX7_withRow_4 hl (by decide) rfl (fun ls hl => ?_)
  exact kX7_withRow_p6 dC dI cB cI cJ cZ a adK adV C0 n ww_latestFault tp_bytes tp_size rd_fault rd_faultPlace rd_kind rd_start rd_at rd_number dr_letterMarks dr_names dr_spelled dr_rows dr_alike dr_near dr_asks dr_letters dr_words dr_askCount sh_lanes sh_sizes sh_cells la_xs la_ys la_heights la_ridgeXs la_ridgeHeights la_way la_blurs la_steps la_places la_ridges la_wayBlur la_wayLength bk_times bk_froms bk_asks bk_words bk_firsts bk_lies bk_held bk_size nu_learned nu_size to_letterMarks to_names to_spelled to_rows to_alike to_near to_asks to_letters to_words to_askCount x1 x2 (0 : Int32) (0 : Int32) r0  n _ _ ls h hP hD hS (lv_sub hl [2, 3, 4, 1, 0] rfl)
set_option maxHeartbeats 4000000 in
set_option maxRecDepth 100000 in
theorem kX7_meantBy (l : Launch) (n : Nat) (dC : Nat → ClassId) (dI : Nat → Nat → Nat) (cB cI cJ cZ : ClassId) (a : Nat → Nat) (adK adV : Nat → Nat) (sz : Nat) (ww_latestFault : Int32) (tp_bytes : Nat → Int32) (tp_size : Int32) (rd_fault : Int32) (rd_faultPlace : Int32) (rd_kind : Int32) (rd_start : Int32) (rd_at : Int32) (rd_number : Int32) (dr_letterMarks : Nat → Int32) (dr_names : Nat → Int64) (dr_spelled : Nat → Int32) (dr_rows : Nat → Int64) (dr_alike : Nat → Int32) (dr_near : Nat → Int32) (dr_asks : Nat → Int32) (dr_letters : Int32) (dr_words : Int32) (dr_askCount : Int32) (sh_lanes : Nat → Int32) (sh_sizes : Nat → Int32) (sh_cells : Nat → Int32) (la_xs : Nat → Int32) (la_ys : Nat → Int32) (la_heights : Nat → Int32) (la_ridgeXs : Nat → Int32) (la_ridgeHeights : Nat → Int32) (la_way : Nat → Int32) (la_blurs : Nat → Int32) (la_steps : Nat → Int32) (la_places : Int32) (la_ridges : Int32) (la_wayBlur : Int32) (la_wayLength : Int32) (bk_times : Nat → Int32) (bk_froms : Nat → Int32) (bk_asks : Nat → Int32) (bk_words : Nat → Int32) (bk_firsts : Nat → Int32) (bk_lies : Nat → Int32) (bk_held : Nat → Int32) (bk_size : Int32) (nu_learned : Nat → Int32) (nu_size : Int32) (to_letterMarks : Nat → Int32) (to_names : Nat → Int64) (to_spelled : Nat → Int32) (to_rows : Nat → Int64) (to_alike : Nat → Int32) (to_near : Nat → Int32) (to_asks : Nat → Int32) (to_letters : Int32) (to_words : Int32) (to_askCount : Int32) (x1 : Int32) (x2 : Int32) (x3 : Int64) (r0 : Int32) (h : fX7_meantBy n to_rows to_asks to_words x1 x2 x3 = some r0) : Met l yX7_meantBy wsX7_meantBy ({ frames := 2, cells := 0, slots := 0, locals := 47 }) (gP (dC, dI) (tyz cB cI cJ cZ) (E_X adK adV) (wX cB cI cJ cZ a (a 35) (a 4) ww_latestFault tp_bytes tp_size rd_fault rd_faultPlace rd_kind rd_start rd_at rd_number dr_letterMarks dr_names dr_spelled dr_rows dr_alike dr_near dr_asks dr_letters dr_words dr_askCount sh_lanes sh_sizes sh_cells la_xs la_ys la_heights la_ridgeXs la_ridgeHeights la_way la_blurs la_steps la_places la_ridges la_wayBlur la_wayLength bk_times bk_froms bk_asks bk_words bk_firsts bk_lies bk_held bk_size nu_learned nu_size to_letterMarks to_names to_spelled to_rows to_alike to_near to_asks to_letters to_words to_askCount) sz [.ref (a 35), .int x1, .int x2, .long x3]) (gI (dC, dI) (tyz cB cI cJ cZ) (wX cB cI cJ cZ a (a 35) (a 4) ww_latestFault tp_bytes tp_size rd_fault rd_faultPlace rd_kind rd_start rd_at rd_number dr_letterMarks dr_names dr_spelled dr_rows dr_alike dr_near dr_asks dr_letters dr_words dr_askCount sh_lanes sh_sizes sh_cells la_xs la_ys la_heights la_ridgeXs la_ridgeHeights la_way la_blurs la_steps la_places la_ridges la_wayBlur la_wayLength bk_times bk_froms bk_asks bk_words bk_firsts bk_lies bk_held bk_size nu_learned nu_size to_letterMarks to_names to_spelled to_rows to_alike to_near to_asks to_letters to_words to_askCount) (va_A (wX cB cI cJ cZ a (a 35) (a 4) ww_latestFault tp_bytes tp_size rd_fault rd_faultPlace rd_kind rd_start rd_at rd_number dr_letterMarks dr_names dr_spelled dr_rows dr_alike dr_near dr_asks dr_letters dr_words dr_askCount sh_lanes sh_sizes sh_cells la_xs la_ys la_heights la_ridgeXs la_ridgeHeights la_way la_blurs la_steps la_places la_ridges la_wayBlur la_wayLength bk_times bk_froms bk_asks bk_words bk_firsts bk_lies bk_held bk_size nu_learned nu_size to_letterMarks to_names to_spelled to_rows to_alike to_near to_asks to_letters to_words to_askCount) sz) r0) 0 0 (va_A (wX cB cI cJ cZ a (a 35) (a 4) ww_latestFault tp_bytes tp_size rd_fault rd_faultPlace rd_kind rd_start rd_at rd_number dr_letterMarks dr_names dr_spelled dr_rows dr_alike dr_near dr_asks dr_letters dr_words dr_askCount sh_lanes sh_sizes sh_cells la_xs la_ys la_heights la_ridgeXs la_ridgeHeights la_way la_blurs la_steps la_places la_ridges la_wayBlur la_wayLength bk_times bk_froms bk_asks bk_words bk_firsts bk_lies bk_held bk_size nu_learned nu_size to_letterMarks to_names to_spelled to_rows to_alike to_near to_asks to_letters to_words to_askCount) sz) := by
  refine Met.ofW (cc := cX7_meantBy) (maxL := 5) (ret := (some .int)) (by decide) rfl ?_
  intro p e s m args below meth c s₁ B hml hv
  obtain ⟨rfl, hsz, hP, hK, hD0, hE⟩ := hv
  have hx := B.exec
  have hb := B.bytes
  have hr := B.returns
  have hts := atoms_spec (ws := wsX7_meantBy) B.pre
  have hown : s.vm.findClass RX7 = some m.cls := findClass_of_methodNamed B.named
  have hlocks := B.notSynchronized
  subst hsz
  have hD := hD0.self (sz := s.heap.size)
  have hA : ∀ q : Nat, s.heap.size ≤ q → va_A (wX cB cI cJ cZ a (a 35) (a 4) ww_latestFault tp_bytes tp_size rd_fault rd_faultPlace rd_kind rd_start rd_at rd_number dr_letterMarks dr_names dr_spelled dr_rows dr_alike dr_near dr_asks dr_letters dr_words dr_askCount sh_lanes sh_sizes sh_cells la_xs la_ys la_heights la_ridgeXs la_ridgeHeights la_way la_blurs la_steps la_places la_ridges la_wayBlur la_wayLength bk_times bk_froms bk_asks bk_words bk_firsts bk_lies bk_held bk_size nu_learned nu_size to_letterMarks to_names to_spelled to_rows to_alike to_near to_asks to_letters to_words to_askCount) s.heap.size q := fun q h => Or.inr h
  generalize va_A (wX cB cI cJ cZ a (a 35) (a 4) ww_latestFault tp_bytes tp_size rd_fault rd_faultPlace rd_kind rd_start rd_at rd_number dr_letterMarks dr_names dr_spelled dr_rows dr_alike dr_near dr_asks dr_letters dr_words dr_askCount sh_lanes sh_sizes sh_cells la_xs la_ys la_heights la_ridgeXs la_ridgeHeights la_way la_blurs la_steps la_places la_ridges la_wayBlur la_wayLength bk_times bk_froms bk_asks bk_words bk_firsts bk_lies bk_held bk_size nu_learned nu_size to_letterMarks to_names to_spelled to_rows to_alike to_near to_asks to_letters to_words to_askCount) s.heap.size = A at hD hA hE ⊢
  have hS : va_S A s.heap s.heap [] := va_S.rf
  have C0 : cxt cX7_meantBy (some .int) 5 RX7 wsX7_meantBy (dC, dI) (tyz cB cI cJ cZ) (E_X adK adV) A p s m ([.ref (a 35), .int x1, .int x2, .long x3] : List Value).toArray meth c := ⟨hx, hb, hr, hml, hown, hts, hlocks, hK, hA, hE⟩
  have hl := lv_entry ([.ref (a 35), .int x1, .int x2, .long x3]) (n := 5) (Nat.le_of_ble_eq_true rfl)
  rw [lg_entry_eq]
  generalize (lg_sl ([.ref (a 35), .int x1, .int x2, .long x3]) ++ List.replicate (5 - (lg_sl ([.ref (a 35), .int x1, .int x2, .long x3])).length) Slot.unset).toArray = ls at hl ⊢
  have hl : lv_has ls 5 [(0, .ref (a 35)), (1, .int x1), (2, .int x2), (3, .long x3)] := hl
  have hw0 := hts (.fieldLink RX7 37 "WhistledWords$Tongue" "asks" "[I") (by decide +kernel)
  have hnX7 : ∀ w ∈ u_ws RX7 TX7 10, w ∈ wsX7_meantBy := fun _ h => List.mem_cons_of_mem _ (List.mem_append_right _ h)
  unfold fX7_meantBy at h
  refine lv_aload_n hx hb dX7_meantBy_0 rfl (lv_at hl 0 rfl) ?_
  refine gX_told_asks hx hb hts hnX7 hown hK hP hw0 dX7_meantBy_1 ?_
  refine lv_iload_n hx hb dX7_meantBy_4 rfl (lv_at hl 1 rfl) ?_
  obtain ⟨hiv1, h⟩ := ar_use h
  refine lX_told_asks hx hb hK hP hiv1 dX7_meantBy_5 ?_
  refine lv_topi (fun v1 ev1 => ?_)
  have h := h v1 ev1
  refine lv_aload_n hx hb dX7_meantBy_6 rfl (lv_at hl 0 rfl) ?_
  refine lv_iload_n hx hb dX7_meantBy_7 rfl (lv_at hl 2 rfl) ?_
  refine lv_lload_n hx hb dX7_meantBy_8 rfl (lv_at hl 3 rfl) ?_
  obtain ⟨v2, hc, h⟩ := bd1_use h
  refine cv_i (As := [.int x2, .long x3]) (rest := [.int v1]) ⟨hx, hb, hml, hown, hts⟩ (kX7_withRow l n dC dI cB cI cJ cZ a adK adV _ ww_latestFault tp_bytes tp_size rd_fault rd_faultPlace rd_kind rd_start rd_at rd_number dr_letterMarks dr_names dr_spelled dr_rows dr_alike dr_near dr_asks dr_letters dr_words dr_askCount sh_lanes sh_sizes sh_cells la_xs la_ys la_heights la_ridgeXs la_ridgeHeights la_way la_blurs la_steps la_places la_ridges la_wayBlur la_wayLength bk_times bk_froms bk_asks bk_words bk_firsts bk_lies bk_held bk_size nu_learned nu_size to_letterMarks to_names to_spelled to_rows to_alike to_near to_asks to_letters to_words to_askCount x2 x3 v2 hc) (cwV 2 hts gX7_meantBy_X7_withRow rfl rfl rfl (by decide +kernel) ⟨Nat.le_of_ble_eq_true rfl, Nat.le_of_ble_eq_true rfl⟩) EB_X hE hK hP hD hS hA 35 (ci := 6) rfl rfl rfl rfl hl.1 rfl (Nat.le_of_ble_eq_true rfl) dX7_meantBy_9 ⟨Nat.zero_le _, Nat.zero_le _⟩ (fun H locs hP hD hS => ?_)
  refine lv_iand hx hb dX7_meantBy_12 ?_
  obtain er := rt1_use h
  exact re_i hx hb hr hlocks hK hP hD hS er dX7_meantBy_13
set_option maxHeartbeats 4000000 in
set_option maxRecDepth 100000 in
theorem kX8_means_p80_r {p : Program} {l : Launch} {e : Env} {s : State} {m : MethodId} {args : Array Value} {below : List Frame} {meth : Method} {c : Code} {A : Nat → Prop} (dC : Nat → ClassId) (dI : Nat → Nat → Nat) (cB cI cJ cZ : ClassId) (a : Nat → Nat) (adK adV : Nat → Nat) (C0 : cxt cX8_means (some .int) 12 RX8 wsX8_means (dC, dI) (tyz cB cI cJ cZ) (E_X adK adV) A p s m args meth c) (n : Nat) (ww_latestFault : Int32) (tp_bytes : Nat → Int32) (tp_size : Int32) (rd_fault : Int32) (rd_faultPlace : Int32) (rd_kind : Int32) (rd_start : Int32) (rd_at : Int32) (rd_number : Int32) (dr_letterMarks : Nat → Int32) (dr_names : Nat → Int64) (dr_spelled : Nat → Int32) (dr_rows : Nat → Int64) (dr_alike : Nat → Int32) (dr_near : Nat → Int32) (dr_asks : Nat → Int32) (dr_letters : Int32) (dr_words : Int32) (dr_askCount : Int32) (sh_lanes : Nat → Int32) (sh_sizes : Nat → Int32) (sh_cells : Nat → Int32) (la_xs : Nat → Int32) (la_ys : Nat → Int32) (la_heights : Nat → Int32) (la_ridgeXs : Nat → Int32) (la_ridgeHeights : Nat → Int32) (la_way : Nat → Int32) (la_blurs : Nat → Int32) (la_steps : Nat → Int32) (la_places : Int32) (la_ridges : Int32) (la_wayBlur : Int32) (la_wayLength : Int32) (bk_times : Nat → Int32) (bk_froms : Nat → Int32) (bk_asks : Nat → Int32) (bk_words : Nat → Int32) (bk_firsts : Nat → Int32) (bk_lies : Nat → Int32) (bk_held : Nat → Int32) (bk_size : Int32) (nu_learned : Nat → Int32) (nu_size : Int32) (to_letterMarks : Nat → Int32) (to_names : Nat → Int64) (to_spelled : Nat → Int32) (to_rows : Nat → Int64) (to_alike : Nat → Int32) (to_near : Nat → Int32) (to_asks : Nat → Int32) (to_letters : Int32) (to_words : Int32) (to_askCount : Int32) (x1 : Int32) (x2 : Int32) (x3 : Int32) (x5 : Int32) (x6 : Int32) (r0 : Int32)  : ∀ (k : Nat) (x8 : Int64) (x10 : Int32) (H : Heap) (locs : List Loc) (ls : Array Slot), fX8_means_p80 n sh_cells to_rows to_asks to_words x1 x2 x3 x5 x6 k x8 x10 = some r0 → va_P (dC, dI) vwCl (wX cB cI cJ cZ a (a 35) (a 4) ww_latestFault tp_bytes tp_size rd_fault rd_faultPlace rd_kind rd_start rd_at rd_number dr_letterMarks dr_names dr_spelled dr_rows dr_alike dr_near dr_asks dr_letters dr_words dr_askCount sh_lanes sh_sizes sh_cells la_xs la_ys la_heights la_ridgeXs la_ridgeHeights la_way la_blurs la_steps la_places la_ridges la_wayBlur la_wayLength bk_times bk_froms bk_asks bk_words bk_firsts bk_lies bk_held bk_size nu_learned nu_size to_letterMarks to_names to_spelled to_rows to_alike to_near to_asks to_letters to_words to_askCount) H → va_D A (wX cB cI cJ cZ a (a 35) (a 4) ww_latestFault tp_bytes tp_size rd_fault rd_faultPlace rd_kind rd_start rd_at rd_number dr_letterMarks dr_names dr_spelled dr_rows dr_alike dr_near dr_asks dr_letters dr_words dr_askCount sh_lanes sh_sizes sh_cells la_xs la_ys la_heights la_ridgeXs la_ridgeHeights la_way la_blurs la_steps la_places la_ridges la_wayBlur la_wayLength bk_times bk_froms bk_asks bk_words bk_firsts bk_lies bk_held bk_size nu_learned nu_size to_letterMarks to_names to_spelled to_rows to_alike to_near to_asks to_letters to_words to_askCount) → va_S A s.heap H locs → lv_has ls 12 [(0, .ref (a 0)), (1, .int x1), (2, .int x2), (3, .int x3), (5, .int x5), (6, .int x6), (8, .long x8), (10, .int x10)] → W p l e { frames := 3, cells := 0, slots := 0, locals := 71 } s m args below meth c H locs 0 0 (MQ below (gI (dC, dI) (tyz cB cI cJ cZ) (wX cB cI cJ cZ a (a 35) (a 4) ww_latestFault tp_bytes tp_size rd_fault rd_faultPlace rd_kind rd_start rd_at rd_number dr_letterMarks dr_names dr_spelled dr_rows dr_alike dr_near dr_asks dr_letters dr_words dr_askCount sh_lanes sh_sizes sh_cells la_xs la_ys la_heights la_ridgeXs la_ridgeHeights la_way la_blurs la_steps la_places la_ridges la_wayBlur la_wayLength bk_times bk_froms bk_asks bk_words bk_firsts bk_lies bk_held bk_size nu_learned nu_size to_letterMarks to_names to_spelled to_rows to_alike to_near to_asks to_letters to_words to_askCount) A r0) args s 0 0 A) (F0 m 80 ls []) := by
  obtain ⟨hx, hb, hr, hml, hown, hts, hlocks, hK, hA, hE⟩ := id C0
  have hw0 := hts (.fieldLink RX8 60 "WhistledWords" "told" "LWhistledWords$Tongue;") (by decide +kernel)
  have hw1 := hts (.fieldLink RX8 28 "WhistledWords" "sheets" "LWhistledWords$Sheets;") (by decide +kernel)
  have hnX8 : ∀ w ∈ u_ws RX8 TX8 8, w ∈ wsX8_means := fun _ h => List.mem_cons_of_mem _ (List.mem_append_left _ (List.mem_append_left _ (List.mem_append_right _ h)))
  intro k
  induction k with
  | zero =>
    intro x8 x10 H locs ls h
    cases h
  | succ k ih =>
    intro x8 x10 H locs ls h hP hD hS hl
    rw [fX8_means_p80] at h
    refine lv_iload hx hb dX8_means_80 (lv_at hl 7 rfl) ?_
    refine lv_iload hx hb dX8_means_82 (lv_at hl 5 rfl) ?_
    refine lv_icmp_ge (tgt := 129) hx hb dX8_means_84 (by decide) (fun c1 => ?_) (fun c1 => ?_)
    · have h := it_use c1 h
      refine lv_aload_n hx hb dX8_means_129 rfl (lv_at hl 0 rfl) ?_
      refine gX_ww_told hx hb hts hnX8 hown hK hP hw0 dX8_means_130 ?_
      refine lv_iload_n hx hb dX8_means_133 rfl (lv_at hl 1 rfl) ?_
      refine lv_iload_n hx hb dX8_means_134 rfl (lv_at hl 2 rfl) ?_
      refine lv_lload hx hb dX8_means_135 (lv_at hl 6 rfl) ?_
      obtain ⟨v2, hc, h⟩ := bd1_use h
      refine cv_i (As := [.int x1, .int x2, .long x8]) (rest := []) ⟨hx, hb, hml, hown, hts⟩ (kX7_meantBy l n dC dI cB cI cJ cZ a adK adV _ ww_latestFault tp_bytes tp_size rd_fault rd_faultPlace rd_kind rd_start rd_at rd_number dr_letterMarks dr_names dr_spelled dr_rows dr_alike dr_near dr_asks dr_letters dr_words dr_askCount sh_lanes sh_sizes sh_cells la_xs la_ys la_heights la_ridgeXs la_ridgeHeights la_way la_blurs la_steps la_places la_ridges la_wayBlur la_wayLength bk_times bk_froms bk_asks bk_words bk_firsts bk_lies bk_held bk_size nu_learned nu_size to_letterMarks to_names to_spelled to_rows to_alike to_near to_asks to_letters to_words to_askCount x1 x2 x8 v2 hc) (cwV 3 hts gX8_means_X7_meantBy rfl rfl rfl (by decide +kernel) ⟨Nat.le_of_ble_eq_true rfl, Nat.le_of_ble_eq_true rfl⟩) EB_X hE hK hP hD hS hA 35 (ci := 6) rfl rfl rfl rfl hl.1 rfl (Nat.le_of_ble_eq_true rfl) dX8_means_137 ⟨Nat.zero_le _, Nat.zero_le _⟩ (fun H locs hP hD hS => ?_)
      obtain er := rt1_use h
      exact re_i hx hb hr hlocks hK hP hD hS er dX8_means_140
    · have h := ie_use c1 h
      refine lv_aload_n hx hb dX8_means_87 rfl (lv_at hl 0 rfl) ?_
      refine gX_ww_sheets hx hb hts hnX8 hown hK hP hw1 dX8_means_88 ?_
      refine lv_iload_n hx hb dX8_means_91 rfl (lv_at hl 3 rfl) ?_
      refine lv_iload hx hb dX8_means_92 (lv_at hl 4 rfl) ?_
      refine lv_iload hx hb dX8_means_94 (lv_at hl 7 rfl) ?_
      refine lv_iadd hx hb dX8_means_96 ?_
      obtain ⟨v3, hc, h⟩ := bd1_use h
      refine cv_i (As := [.int x3, .int (x5 + x10)]) (rest := []) ⟨hx, hb, hml, hown, hts⟩ (kX4_cellAt l n dC dI cB cI cJ cZ a adK adV _ ww_latestFault tp_bytes tp_size rd_fault rd_faultPlace rd_kind rd_start rd_at rd_number dr_letterMarks dr_names dr_spelled dr_rows dr_alike dr_near dr_asks dr_letters dr_words dr_askCount sh_lanes sh_sizes sh_cells la_xs la_ys la_heights la_ridgeXs la_ridgeHeights la_way la_blurs la_steps la_places la_ridges la_wayBlur la_wayLength bk_times bk_froms bk_asks bk_words bk_firsts bk_lies bk_held bk_size nu_learned nu_size to_letterMarks to_names to_spelled to_rows to_alike to_near to_asks to_letters to_words to_askCount x3 (x5 + x10) v3 hc) (cwV 2 hts gX8_means_X4_cellAt rfl rfl rfl (by decide +kernel) ⟨Nat.le_of_ble_eq_true rfl, Nat.le_of_ble_eq_true rfl⟩) EB_X hE hK hP hD hS hA 12 (ci := 3) rfl rfl rfl rfl hl.1 rfl (Nat.le_of_ble_eq_true rfl) dX8_means_97 ⟨Nat.zero_le _, Nat.zero_le _⟩ (fun H locs hP hD hS => ?_)
      refine lv_istore (lv' := [(11, .int v3), (0, .ref (a 0)), (1, .int x1), (2, .int x2), (3, .int x3), (5, .int x5), (6, .int x6), (8, .long x8), (10, .int x10)]) hx hb dX8_means_100 hl (by decide) rfl (fun ls hl => ?_)
      refine lv_iload hx hb dX8_means_102 (lv_at hl 0 rfl) ?_
      obtain ⟨v4, hc, h⟩ := bd1_use h
      refine cs_i (As := [.int v3]) (rest := []) ⟨hx, hb, hml, hown, hts⟩ (kX3_isMark l n v3 v4 hc) (va_cwS 1 hts gX8_means_X3_isMark rfl rfl rfl (by decide +kernel) ⟨Nat.le_of_ble_eq_true rfl, Nat.le_of_ble_eq_true rfl⟩) hP hS rfl hl.1 rfl (Nat.le_of_ble_eq_true rfl) dX8_means_104 ⟨Nat.zero_le _, Nat.zero_le _⟩ (fun H locs hP hS => ?_)
      refine lv_if_ne (tgt := 112) hx hb dX8_means_107 (by decide) (fun c5 => ?_) (fun c5 => ?_)
      · have h := ie_use c5 h
        refine lv_lload hx hb dX8_means_112 (lv_at hl 7 rfl) ?_
        refine lv_iload hx hb dX8_means_114 (lv_at hl 8 rfl) ?_
        refine lv_iload hx hb dX8_means_116 (lv_at hl 0 rfl) ?_
        obtain ⟨v6, hc, h⟩ := bd1_use h
        refine cs_l (As := [.long x8, .int x10, .int v3]) (rest := []) ⟨hx, hb, hml, hown, hts⟩ (kX3_with l n x8 x10 v3 v6 hc) (va_cwS 3 hts gX8_means_X3_with rfl rfl rfl (by decide +kernel) ⟨Nat.le_of_ble_eq_true rfl, Nat.le_of_ble_eq_true rfl⟩) hP hS rfl hl.1 rfl (Nat.le_of_ble_eq_true rfl) dX8_means_118 ⟨Nat.zero_le _, Nat.zero_le _⟩ (fun H locs hP hS => ?_)
        refine lv_lstore (lv' := [(8, .long v6), (11, .int v3), (0, .ref (a 0)), (1, .int x1), (2, .int x2), (3, .int x3), (5, .int x5), (6, .int x6), (10, .int x10)]) hx hb dX8_means_121 hl (by decide) rfl (fun ls hl => ?_)
        refine lv_iinc (v := x10 + 1) (lv' := [(10, .int (x10 + 1)), (8, .long v6), (11, .int v3), (0, .ref (a 0)), (1, .int x1), (2, .int x2), (3, .int x3), (5, .int x5), (6, .int x6)]) hx hb dX8_means_123 hl (k := 8) rfl rfl (by decide) rfl (fun ls hl => ?_)
        refine lv_goto (tgt := 80) hx hb dX8_means_126 (by decide) ?_
        exact ih v6 (x10 + 1) _ _ ls h hP hD hS (lv_sub hl [3, 4, 5, 6, 7, 8, 1, 0] rfl)
      · have h := it_use c5 h
        refine lv_iconst (v := 0) hx hb dX8_means_110 (by decide) ?_
        obtain er := rt1_use h
        exact re_i hx hb hr hlocks hK hP hD hS er dX8_means_111
theorem kX8_means_p80 {p : Program} {l : Launch} {e : Env} {s : State} {m : MethodId} {args : Array Value} {below : List Frame} {meth : Method} {c : Code} {A : Nat → Prop} (dC : Nat → ClassId) (dI : Nat → Nat → Nat) (cB cI cJ cZ : ClassId) (a : Nat → Nat) (adK adV : Nat → Nat) (C0 : cxt cX8_means (some .int) 12 RX8 wsX8_means (dC, dI) (tyz cB cI cJ cZ) (E_X adK adV) A p s m args meth c) (n : Nat) (ww_latestFault : Int32) (tp_bytes : Nat → Int32) (tp_size : Int32) (rd_fault : Int32) (rd_faultPlace : Int32) (rd_kind : Int32) (rd_start : Int32) (rd_at : Int32) (rd_number : Int32) (dr_letterMarks : Nat → Int32) (dr_names : Nat → Int64) (dr_spelled : Nat → Int32) (dr_rows : Nat → Int64) (dr_alike : Nat → Int32) (dr_near : Nat → Int32) (dr_asks : Nat → Int32) (dr_letters : Int32) (dr_words : Int32) (dr_askCount : Int32) (sh_lanes : Nat → Int32) (sh_sizes : Nat → Int32) (sh_cells : Nat → Int32) (la_xs : Nat → Int32) (la_ys : Nat → Int32) (la_heights : Nat → Int32) (la_ridgeXs : Nat → Int32) (la_ridgeHeights : Nat → Int32) (la_way : Nat → Int32) (la_blurs : Nat → Int32) (la_steps : Nat → Int32) (la_places : Int32) (la_ridges : Int32) (la_wayBlur : Int32) (la_wayLength : Int32) (bk_times : Nat → Int32) (bk_froms : Nat → Int32) (bk_asks : Nat → Int32) (bk_words : Nat → Int32) (bk_firsts : Nat → Int32) (bk_lies : Nat → Int32) (bk_held : Nat → Int32) (bk_size : Int32) (nu_learned : Nat → Int32) (nu_size : Int32) (to_letterMarks : Nat → Int32) (to_names : Nat → Int64) (to_spelled : Nat → Int32) (to_rows : Nat → Int64) (to_alike : Nat → Int32) (to_near : Nat → Int32) (to_asks : Nat → Int32) (to_letters : Int32) (to_words : Int32) (to_askCount : Int32)  (x1 : Int32) (x2 : Int32) (x3 : Int32) (x5 : Int32) (x6 : Int32) (x8 : Int64) (x10 : Int32) (r0 : Int32)  (k : Nat) (H : Heap) (locs : List Loc) (ls : Array Slot) : fX8_means_p80 n sh_cells to_rows to_asks to_words x1 x2 x3 x5 x6 k x8 x10 = some r0 → va_P (dC, dI) vwCl (wX cB cI cJ cZ a (a 35) (a 4) ww_latestFault tp_bytes tp_size rd_fault rd_faultPlace rd_kind rd_start rd_at rd_number dr_letterMarks dr_names dr_spelled dr_rows dr_alike dr_near dr_asks dr_letters dr_words dr_askCount sh_lanes sh_sizes sh_cells la_xs la_ys la_heights la_ridgeXs la_ridgeHeights la_way la_blurs la_steps la_places la_ridges la_wayBlur la_wayLength bk_times bk_froms bk_asks bk_words bk_firsts bk_lies bk_held bk_size nu_learned nu_size to_letterMarks to_names to_spelled to_rows to_alike to_near to_asks to_letters to_words to_askCount) H → va_D A (wX cB cI cJ cZ a (a 35) (a 4) ww_latestFault tp_bytes tp_size rd_fault rd_faultPlace rd_kind rd_start rd_at rd_number dr_letterMarks dr_names dr_spelled dr_rows dr_alike dr_near dr_asks dr_letters dr_words dr_askCount sh_lanes sh_sizes sh_cells la_xs la_ys la_heights la_ridgeXs la_ridgeHeights la_way la_blurs la_steps la_places la_ridges la_wayBlur la_wayLength bk_times bk_froms bk_asks bk_words bk_firsts bk_lies bk_held bk_size nu_learned nu_size to_letterMarks to_names to_spelled to_rows to_alike to_near to_asks to_letters to_words to_askCount) → va_S A s.heap H locs → lv_has ls 12 [(0, .ref (a 0)), (1, .int x1), (2, .int x2), (3, .int x3), (5, .int x5), (6, .int x6), (8, .long x8), (10, .int x10)] → W p l e { frames := 3, cells := 0, slots := 0, locals := 71 } s m args below meth c H locs 0 0 (MQ below (gI (dC, dI) (tyz cB cI cJ cZ) (wX cB cI cJ cZ a (a 35) (a 4) ww_latestFault tp_bytes tp_size rd_fault rd_faultPlace rd_kind rd_start rd_at rd_number dr_letterMarks dr_names dr_spelled dr_rows dr_alike dr_near dr_asks dr_letters dr_words dr_askCount sh_lanes sh_sizes sh_cells la_xs la_ys la_heights la_ridgeXs la_ridgeHeights la_way la_blurs la_steps la_places la_ridges la_wayBlur la_wayLength bk_times bk_froms bk_asks bk_words bk_firsts bk_lies bk_held bk_size nu_learned nu_size to_letterMarks to_names to_spelled to_rows to_alike to_near to_asks to_letters to_words to_askCount) A r0) args s 0 0 A) (F0 m 80 ls []) :=
  kX8_means_p80_r dC dI cB cI cJ cZ a adK adV C0 n ww_latestFault tp_bytes tp_size rd_fault rd_faultPlace rd_kind rd_start rd_at rd_number dr_letterMarks dr_names dr_spelled dr_rows dr_alike dr_near dr_asks dr_letters dr_words dr_askCount sh_lanes sh_sizes sh_cells la_xs la_ys la_heights la_ridgeXs la_ridgeHeights la_way la_blurs la_steps la_places la_ridges la_wayBlur la_wayLength bk_times bk_froms bk_asks bk_words bk_firsts bk_lies bk_held bk_size nu_learned nu_size to_letterMarks to_names to_spelled to_rows to_alike to_near to_asks to_letters to_words to_askCount x1 x2 x3 x5 x6 r0  k x8 x10 H locs ls
set_option maxHeartbeats 4000000 in
set_option maxRecDepth 100000 in
theorem kX8_means (l : Launch) (n : Nat) (dC : Nat → ClassId) (dI : Nat → Nat → Nat) (cB cI cJ cZ : ClassId) (a : Nat → Nat) (adK adV : Nat → Nat) (sz : Nat) (ww_latestFault : Int32) (tp_bytes : Nat → Int32) (tp_size : Int32) (rd_fault : Int32) (rd_faultPlace : Int32) (rd_kind : Int32) (rd_start : Int32) (rd_at : Int32) (rd_number : Int32) (dr_letterMarks : Nat → Int32) (dr_names : Nat → Int64) (dr_spelled : Nat → Int32) (dr_rows : Nat → Int64) (dr_alike : Nat → Int32) (dr_near : Nat → Int32) (dr_asks : Nat → Int32) (dr_letters : Int32) (dr_words : Int32) (dr_askCount : Int32) (sh_lanes : Nat → Int32) (sh_sizes : Nat → Int32) (sh_cells : Nat → Int32) (la_xs : Nat → Int32) (la_ys : Nat → Int32) (la_heights : Nat → Int32) (la_ridgeXs : Nat → Int32) (la_ridgeHeights : Nat → Int32) (la_way : Nat → Int32) (la_blurs : Nat → Int32) (la_steps : Nat → Int32) (la_places : Int32) (la_ridges : Int32) (la_wayBlur : Int32) (la_wayLength : Int32) (bk_times : Nat → Int32) (bk_froms : Nat → Int32) (bk_asks : Nat → Int32) (bk_words : Nat → Int32) (bk_firsts : Nat → Int32) (bk_lies : Nat → Int32) (bk_held : Nat → Int32) (bk_size : Int32) (nu_learned : Nat → Int32) (nu_size : Int32) (to_letterMarks : Nat → Int32) (to_names : Nat → Int64) (to_spelled : Nat → Int32) (to_rows : Nat → Int64) (to_alike : Nat → Int32) (to_near : Nat → Int32) (to_asks : Nat → Int32) (to_letters : Int32) (to_words : Int32) (to_askCount : Int32) (x1 : Int32) (x2 : Int32) (x3 : Int32) (x4 : Int32) (x5 : Int32) (x6 : Int32) (r0 : Int32) (h : fX8_means n sh_lanes sh_sizes sh_cells to_rows to_asks to_words to_askCount x1 x2 x3 x4 x5 x6 = some r0) : Met l yX8_means wsX8_means ({ frames := 3, cells := 0, slots := 0, locals := 71 }) (gP (dC, dI) (tyz cB cI cJ cZ) (E_X adK adV) (wX cB cI cJ cZ a (a 35) (a 4) ww_latestFault tp_bytes tp_size rd_fault rd_faultPlace rd_kind rd_start rd_at rd_number dr_letterMarks dr_names dr_spelled dr_rows dr_alike dr_near dr_asks dr_letters dr_words dr_askCount sh_lanes sh_sizes sh_cells la_xs la_ys la_heights la_ridgeXs la_ridgeHeights la_way la_blurs la_steps la_places la_ridges la_wayBlur la_wayLength bk_times bk_froms bk_asks bk_words bk_firsts bk_lies bk_held bk_size nu_learned nu_size to_letterMarks to_names to_spelled to_rows to_alike to_near to_asks to_letters to_words to_askCount) sz [.ref (a 0), .int x1, .int x2, .int x3, .int x4, .int x5, .int x6]) (gI (dC, dI) (tyz cB cI cJ cZ) (wX cB cI cJ cZ a (a 35) (a 4) ww_latestFault tp_bytes tp_size rd_fault rd_faultPlace rd_kind rd_start rd_at rd_number dr_letterMarks dr_names dr_spelled dr_rows dr_alike dr_near dr_asks dr_letters dr_words dr_askCount sh_lanes sh_sizes sh_cells la_xs la_ys la_heights la_ridgeXs la_ridgeHeights la_way la_blurs la_steps la_places la_ridges la_wayBlur la_wayLength bk_times bk_froms bk_asks bk_words bk_firsts bk_lies bk_held bk_size nu_learned nu_size to_letterMarks to_names to_spelled to_rows to_alike to_near to_asks to_letters to_words to_askCount) (va_A (wX cB cI cJ cZ a (a 35) (a 4) ww_latestFault tp_bytes tp_size rd_fault rd_faultPlace rd_kind rd_start rd_at rd_number dr_letterMarks dr_names dr_spelled dr_rows dr_alike dr_near dr_asks dr_letters dr_words dr_askCount sh_lanes sh_sizes sh_cells la_xs la_ys la_heights la_ridgeXs la_ridgeHeights la_way la_blurs la_steps la_places la_ridges la_wayBlur la_wayLength bk_times bk_froms bk_asks bk_words bk_firsts bk_lies bk_held bk_size nu_learned nu_size to_letterMarks to_names to_spelled to_rows to_alike to_near to_asks to_letters to_words to_askCount) sz) r0) 0 0 (va_A (wX cB cI cJ cZ a (a 35) (a 4) ww_latestFault tp_bytes tp_size rd_fault rd_faultPlace rd_kind rd_start rd_at rd_number dr_letterMarks dr_names dr_spelled dr_rows dr_alike dr_near dr_asks dr_letters dr_words dr_askCount sh_lanes sh_sizes sh_cells la_xs la_ys la_heights la_ridgeXs la_ridgeHeights la_way la_blurs la_steps la_places la_ridges la_wayBlur la_wayLength bk_times bk_froms bk_asks bk_words bk_firsts bk_lies bk_held bk_size nu_learned nu_size to_letterMarks to_names to_spelled to_rows to_alike to_near to_asks to_letters to_words to_askCount) sz) := by
  refine Met.ofW (cc := cX8_means) (maxL := 12) (ret := (some .int)) (by decide) rfl ?_
  intro p e s m args below meth c s₁ B hml hv
  obtain ⟨rfl, hsz, hP, hK, hD0, hE⟩ := hv
  have hx := B.exec
  have hb := B.bytes
  have hr := B.returns
  have hts := atoms_spec (ws := wsX8_means) B.pre
  have hown : s.vm.findClass RX8 = some m.cls := findClass_of_methodNamed B.named
  have hlocks := B.notSynchronized
  subst hsz
  have hD := hD0.self (sz := s.heap.size)
  have hA : ∀ q : Nat, s.heap.size ≤ q → va_A (wX cB cI cJ cZ a (a 35) (a 4) ww_latestFault tp_bytes tp_size rd_fault rd_faultPlace rd_kind rd_start rd_at rd_number dr_letterMarks dr_names dr_spelled dr_rows dr_alike dr_near dr_asks dr_letters dr_words dr_askCount sh_lanes sh_sizes sh_cells la_xs la_ys la_heights la_ridgeXs la_ridgeHeights la_way la_blurs la_steps la_places la_ridges la_wayBlur la_wayLength bk_times bk_froms bk_asks bk_words bk_firsts bk_lies bk_held bk_size nu_learned nu_size to_letterMarks to_names to_spelled to_rows to_alike to_near to_asks to_letters to_words to_askCount) s.heap.size q := fun q h => Or.inr h
  generalize va_A (wX cB cI cJ cZ a (a 35) (a 4) ww_latestFault tp_bytes tp_size rd_fault rd_faultPlace rd_kind rd_start rd_at rd_number dr_letterMarks dr_names dr_spelled dr_rows dr_alike dr_near dr_asks dr_letters dr_words dr_askCount sh_lanes sh_sizes sh_cells la_xs la_ys la_heights la_ridgeXs la_ridgeHeights la_way la_blurs la_steps la_places la_ridges la_wayBlur la_wayLength bk_times bk_froms bk_asks bk_words bk_firsts bk_lies bk_held bk_size nu_learned nu_size to_letterMarks to_names to_spelled to_rows to_alike to_near to_asks to_letters to_words to_askCount) s.heap.size = A at hD hA hE ⊢
  have hS : va_S A s.heap s.heap [] := va_S.rf
  have C0 : cxt cX8_means (some .int) 12 RX8 wsX8_means (dC, dI) (tyz cB cI cJ cZ) (E_X adK adV) A p s m ([.ref (a 0), .int x1, .int x2, .int x3, .int x4, .int x5, .int x6] : List Value).toArray meth c := ⟨hx, hb, hr, hml, hown, hts, hlocks, hK, hA, hE⟩
  have hl := lv_entry ([.ref (a 0), .int x1, .int x2, .int x3, .int x4, .int x5, .int x6]) (n := 12) (Nat.le_of_ble_eq_true rfl)
  rw [lg_entry_eq]
  generalize (lg_sl ([.ref (a 0), .int x1, .int x2, .int x3, .int x4, .int x5, .int x6]) ++ List.replicate (12 - (lg_sl ([.ref (a 0), .int x1, .int x2, .int x3, .int x4, .int x5, .int x6])).length) Slot.unset).toArray = ls at hl ⊢
  have hl : lv_has ls 12 [(0, .ref (a 0)), (1, .int x1), (2, .int x2), (3, .int x3), (4, .int x4), (5, .int x5), (6, .int x6)] := hl
  have hw0 := hts (.fieldLink RX8 60 "WhistledWords" "told" "LWhistledWords$Tongue;") (by decide +kernel)
  have hw1 := hts (.fieldLink RX8 28 "WhistledWords" "sheets" "LWhistledWords$Sheets;") (by decide +kernel)
  have hnX8 : ∀ w ∈ u_ws RX8 TX8 8, w ∈ wsX8_means := fun _ h => List.mem_cons_of_mem _ (List.mem_append_left _ (List.mem_append_left _ (List.mem_append_right _ h)))
  unfold fX8_means at h
  refine lv_aload_n hx hb dX8_means_0 rfl (lv_at hl 0 rfl) ?_
  refine gX_ww_told hx hb hts hnX8 hown hK hP hw0 dX8_means_1 ?_
  refine lv_iload_n hx hb dX8_means_4 rfl (lv_at hl 1 rfl) ?_
  obtain ⟨v1, hc, h⟩ := bd1_use h
  refine cv_i (As := [.int x1]) (rest := []) ⟨hx, hb, hml, hown, hts⟩ (kX7_isAsk l n dC dI cB cI cJ cZ a adK adV _ ww_latestFault tp_bytes tp_size rd_fault rd_faultPlace rd_kind rd_start rd_at rd_number dr_letterMarks dr_names dr_spelled dr_rows dr_alike dr_near dr_asks dr_letters dr_words dr_askCount sh_lanes sh_sizes sh_cells la_xs la_ys la_heights la_ridgeXs la_ridgeHeights la_way la_blurs la_steps la_places la_ridges la_wayBlur la_wayLength bk_times bk_froms bk_asks bk_words bk_firsts bk_lies bk_held bk_size nu_learned nu_size to_letterMarks to_names to_spelled to_rows to_alike to_near to_asks to_letters to_words to_askCount x1 v1 hc) (cwV 1 hts gX8_means_X7_isAsk rfl rfl rfl (by decide +kernel) ⟨Nat.le_of_ble_eq_true rfl, Nat.le_of_ble_eq_true rfl⟩) EB_X hE hK hP hD hS hA 35 (ci := 6) rfl rfl rfl rfl hl.1 rfl (Nat.le_of_ble_eq_true rfl) dX8_means_5 ⟨Nat.zero_le _, Nat.zero_le _⟩ (fun H locs hP hD hS => ?_)
  refine lv_if_eq (tgt := 45) hx hb dX8_means_8 (by decide) (fun c2 => ?_) (fun c2 => ?_)
  · have h := it_use c2 h
    refine lv_iconst (v := -1) hx hb dX8_means_45 (by decide) ?_
    obtain er := rt1_use h
    exact re_i hx hb hr hlocks hK hP hD hS er dX8_means_46
  · have h := ie_use c2 h
    refine lv_iload_n hx hb dX8_means_11 rfl (lv_at hl 2 rfl) ?_
    obtain ⟨v3, hc, h⟩ := bd1_use h
    refine cs_i (As := [.int x2]) (rest := []) ⟨hx, hb, hml, hown, hts⟩ (kX8_isBlur l n x2 v3 hc) (va_cwS 1 hts gX8_means_X8_isBlur rfl rfl rfl (by decide +kernel) ⟨Nat.le_of_ble_eq_true rfl, Nat.le_of_ble_eq_true rfl⟩) hP hS rfl hl.1 rfl (Nat.le_of_ble_eq_true rfl) dX8_means_12 ⟨Nat.zero_le _, Nat.zero_le _⟩ (fun H locs hP hS => ?_)
    refine lv_if_eq (tgt := 45) hx hb dX8_means_15 (by decide) (fun c4 => ?_) (fun c4 => ?_)
    · have h := it_use c4 h
      refine lv_iconst (v := -1) hx hb dX8_means_45 (by decide) ?_
      obtain er := rt1_use h
      exact re_i hx hb hr hlocks hK hP hD hS er dX8_means_46
    · have h := ie_use c4 h
      refine lv_iload_n hx hb dX8_means_18 rfl (lv_at hl 3 rfl) ?_
      obtain ⟨v5, hc, h⟩ := bd1_use h
      refine cs_i (As := [.int x3]) (rest := []) ⟨hx, hb, hml, hown, hts⟩ (kX4_isSheet l n x3 v5 hc) (va_cwS 1 hts gX8_means_X4_isSheet rfl rfl rfl (by decide +kernel) ⟨Nat.le_of_ble_eq_true rfl, Nat.le_of_ble_eq_true rfl⟩) hP hS rfl hl.1 rfl (Nat.le_of_ble_eq_true rfl) dX8_means_19 ⟨Nat.zero_le _, Nat.zero_le _⟩ (fun H locs hP hS => ?_)
      refine lv_if_eq (tgt := 45) hx hb dX8_means_22 (by decide) (fun c6 => ?_) (fun c6 => ?_)
      · have h := it_use c6 h
        refine lv_iconst (v := -1) hx hb dX8_means_45 (by decide) ?_
        obtain er := rt1_use h
        exact re_i hx hb hr hlocks hK hP hD hS er dX8_means_46
      · have h := ie_use c6 h
        refine lv_iload hx hb dX8_means_25 (lv_at hl 4 rfl) ?_
        obtain ⟨v7, hc, h⟩ := bd1_use h
        refine cs_i (As := [.int x4]) (rest := []) ⟨hx, hb, hml, hown, hts⟩ (kX4_isLane l n x4 v7 hc) (va_cwS 1 hts gX8_means_X4_isLane rfl rfl rfl (by decide +kernel) ⟨Nat.le_of_ble_eq_true rfl, Nat.le_of_ble_eq_true rfl⟩) hP hS rfl hl.1 rfl (Nat.le_of_ble_eq_true rfl) dX8_means_27 ⟨Nat.zero_le _, Nat.zero_le _⟩ (fun H locs hP hS => ?_)
        refine lv_if_eq (tgt := 45) hx hb dX8_means_30 (by decide) (fun c8 => ?_) (fun c8 => ?_)
        · have h := it_use c8 h
          refine lv_iconst (v := -1) hx hb dX8_means_45 (by decide) ?_
          obtain er := rt1_use h
          exact re_i hx hb hr hlocks hK hP hD hS er dX8_means_46
        · have h := ie_use c8 h
          refine lv_iload hx hb dX8_means_33 (lv_at hl 6 rfl) ?_
          refine lv_if_lt (tgt := 45) hx hb dX8_means_35 (by decide) (fun c9 => ?_) (fun c9 => ?_)
          · have h := it_use c9 h
            refine lv_iconst (v := -1) hx hb dX8_means_45 (by decide) ?_
            obtain er := rt1_use h
            exact re_i hx hb hr hlocks hK hP hD hS er dX8_means_46
          · have h := ie_use c9 h
            refine lv_iload hx hb dX8_means_38 (lv_at hl 6 rfl) ?_
            refine lv_bipush (v := 8) hx hb dX8_means_40 (by decide) ?_
            refine lv_icmp_le (tgt := 47) hx hb dX8_means_42 (by decide) (fun c10 => ?_) (fun c10 => ?_)
            · have h := it_use c10 h
              refine lv_aload_n hx hb dX8_means_47 rfl (lv_at hl 0 rfl) ?_
              refine gX_ww_sheets hx hb hts hnX8 hown hK hP hw1 dX8_means_48 ?_
              refine lv_iload_n hx hb dX8_means_51 rfl (lv_at hl 3 rfl) ?_
              refine lv_iload hx hb dX8_means_52 (lv_at hl 4 rfl) ?_
              refine lv_iload hx hb dX8_means_54 (lv_at hl 5 rfl) ?_
              refine lv_iload hx hb dX8_means_56 (lv_at hl 6 rfl) ?_
              obtain ⟨v11, hc, h⟩ := bd1_use h
              refine cv_i (As := [.int x3, .int x4, .int x5, .int x6]) (rest := []) ⟨hx, hb, hml, hown, hts⟩ (kX4_faultOfRow l n dC dI cB cI cJ cZ a adK adV _ ww_latestFault tp_bytes tp_size rd_fault rd_faultPlace rd_kind rd_start rd_at rd_number dr_letterMarks dr_names dr_spelled dr_rows dr_alike dr_near dr_asks dr_letters dr_words dr_askCount sh_lanes sh_sizes sh_cells la_xs la_ys la_heights la_ridgeXs la_ridgeHeights la_way la_blurs la_steps la_places la_ridges la_wayBlur la_wayLength bk_times bk_froms bk_asks bk_words bk_firsts bk_lies bk_held bk_size nu_learned nu_size to_letterMarks to_names to_spelled to_rows to_alike to_near to_asks to_letters to_words to_askCount x3 x4 x5 x6 v11 hc) (cwV 4 hts gX8_means_X4_faultOfRow rfl rfl rfl (by decide +kernel) ⟨Nat.le_of_ble_eq_true rfl, Nat.le_of_ble_eq_true rfl⟩) EB_X hE hK hP hD hS hA 12 (ci := 3) rfl rfl rfl rfl hl.1 rfl (Nat.le_of_ble_eq_true rfl) dX8_means_58 ⟨Nat.zero_le _, Nat.zero_le _⟩ (fun H locs hP hD hS => ?_)
              refine lv_istore (lv' := [(7, .int v11), (0, .ref (a 0)), (1, .int x1), (2, .int x2), (3, .int x3), (4, .int x4), (5, .int x5), (6, .int x6)]) hx hb dX8_means_61 hl (by decide) rfl (fun ls hl => ?_)
              refine lv_iload hx hb dX8_means_63 (lv_at hl 0 rfl) ?_
              refine lv_if_eq (tgt := 74) hx hb dX8_means_65 (by decide) (fun c12 => ?_) (fun c12 => ?_)
              · have h := it_use c12 h
                refine lv_lconst (v := 0) hx hb dX8_means_74 (by decide) ?_
                refine lv_lstore (lv' := [(8, .long (0 : Int64)), (7, .int v11), (0, .ref (a 0)), (1, .int x1), (2, .int x2), (3, .int x3), (4, .int x4), (5, .int x5), (6, .int x6)]) hx hb dX8_means_75 hl (by decide) rfl (fun ls hl => ?_)
                refine lv_iconst (v := 0) hx hb dX8_means_77 (by decide) ?_
                refine lv_istore (lv' := [(10, .int (0 : Int32)), (8, .long (0 : Int64)), (7, .int v11), (0, .ref (a 0)), (1, .int x1), (2, .int x2), (3, .int x3), (4, .int x4), (5, .int x5), (6, .int x6)]) hx hb dX8_means_78 hl (by decide) rfl (fun ls hl => ?_)
                exact kX8_means_p80 dC dI cB cI cJ cZ a adK adV C0 n ww_latestFault tp_bytes tp_size rd_fault rd_faultPlace rd_kind rd_start rd_at rd_number dr_letterMarks dr_names dr_spelled dr_rows dr_alike dr_near dr_asks dr_letters dr_words dr_askCount sh_lanes sh_sizes sh_cells la_xs la_ys la_heights la_ridgeXs la_ridgeHeights la_way la_blurs la_steps la_places la_ridges la_wayBlur la_wayLength bk_times bk_froms bk_asks bk_words bk_firsts bk_lies bk_held bk_size nu_learned nu_size to_letterMarks to_names to_spelled to_rows to_alike to_near to_asks to_letters to_words to_askCount x1 x2 x3 x5 x6 (0 : Int64) (0 : Int32) r0  n _ _ ls h hP hD hS (lv_sub hl [3, 4, 5, 6, 8, 9, 1, 0] rfl)
              · have h := ie_use c12 h
                refine lv_bipush (v := -10) hx hb dX8_means_68 (by decide) ?_
                refine lv_iload hx hb dX8_means_70 (lv_at hl 0 rfl) ?_
                refine lv_isub hx hb dX8_means_72 ?_
                obtain er := rt1_use h
                exact re_i hx hb hr hlocks hK hP hD hS er dX8_means_73
            · have h := ie_use c10 h
              refine lv_iconst (v := -1) hx hb dX8_means_45 (by decide) ?_
              obtain er := rt1_use h
              exact re_i hx hb hr hlocks hK hP hD hS er dX8_means_46
set_option maxHeartbeats 4000000 in
set_option maxRecDepth 100000 in
theorem kX7_fits (l : Launch) (n : Nat) (dC : Nat → ClassId) (dI : Nat → Nat → Nat) (cB cI cJ cZ : ClassId) (a : Nat → Nat) (adK adV : Nat → Nat) (sz : Nat) (ww_latestFault : Int32) (tp_bytes : Nat → Int32) (tp_size : Int32) (rd_fault : Int32) (rd_faultPlace : Int32) (rd_kind : Int32) (rd_start : Int32) (rd_at : Int32) (rd_number : Int32) (dr_letterMarks : Nat → Int32) (dr_names : Nat → Int64) (dr_spelled : Nat → Int32) (dr_rows : Nat → Int64) (dr_alike : Nat → Int32) (dr_near : Nat → Int32) (dr_asks : Nat → Int32) (dr_letters : Int32) (dr_words : Int32) (dr_askCount : Int32) (sh_lanes : Nat → Int32) (sh_sizes : Nat → Int32) (sh_cells : Nat → Int32) (la_xs : Nat → Int32) (la_ys : Nat → Int32) (la_heights : Nat → Int32) (la_ridgeXs : Nat → Int32) (la_ridgeHeights : Nat → Int32) (la_way : Nat → Int32) (la_blurs : Nat → Int32) (la_steps : Nat → Int32) (la_places : Int32) (la_ridges : Int32) (la_wayBlur : Int32) (la_wayLength : Int32) (bk_times : Nat → Int32) (bk_froms : Nat → Int32) (bk_asks : Nat → Int32) (bk_words : Nat → Int32) (bk_firsts : Nat → Int32) (bk_lies : Nat → Int32) (bk_held : Nat → Int32) (bk_size : Int32) (nu_learned : Nat → Int32) (nu_size : Int32) (to_letterMarks : Nat → Int32) (to_names : Nat → Int64) (to_spelled : Nat → Int32) (to_rows : Nat → Int64) (to_alike : Nat → Int32) (to_near : Nat → Int32) (to_asks : Nat → Int32) (to_letters : Int32) (to_words : Int32) (to_askCount : Int32) (x1 : Int32) (x2 : Int32) (r0 : Int32) (h : fX7_fits n to_asks to_words to_askCount x1 x2 = some r0) : Met l yX7_fits wsX7_fits ({ frames := 1, cells := 0, slots := 0, locals := 21 }) (gP (dC, dI) (tyz cB cI cJ cZ) (E_X adK adV) (wX cB cI cJ cZ a (a 35) (a 4) ww_latestFault tp_bytes tp_size rd_fault rd_faultPlace rd_kind rd_start rd_at rd_number dr_letterMarks dr_names dr_spelled dr_rows dr_alike dr_near dr_asks dr_letters dr_words dr_askCount sh_lanes sh_sizes sh_cells la_xs la_ys la_heights la_ridgeXs la_ridgeHeights la_way la_blurs la_steps la_places la_ridges la_wayBlur la_wayLength bk_times bk_froms bk_asks bk_words bk_firsts bk_lies bk_held bk_size nu_learned nu_size to_letterMarks to_names to_spelled to_rows to_alike to_near to_asks to_letters to_words to_askCount) sz [.ref (a 35), .int x1, .int x2]) (gI (dC, dI) (tyz cB cI cJ cZ) (wX cB cI cJ cZ a (a 35) (a 4) ww_latestFault tp_bytes tp_size rd_fault rd_faultPlace rd_kind rd_start rd_at rd_number dr_letterMarks dr_names dr_spelled dr_rows dr_alike dr_near dr_asks dr_letters dr_words dr_askCount sh_lanes sh_sizes sh_cells la_xs la_ys la_heights la_ridgeXs la_ridgeHeights la_way la_blurs la_steps la_places la_ridges la_wayBlur la_wayLength bk_times bk_froms bk_asks bk_words bk_firsts bk_lies bk_held bk_size nu_learned nu_size to_letterMarks to_names to_spelled to_rows to_alike to_near to_asks to_letters to_words to_askCount) (va_A (wX cB cI cJ cZ a (a 35) (a 4) ww_latestFault tp_bytes tp_size rd_fault rd_faultPlace rd_kind rd_start rd_at rd_number dr_letterMarks dr_names dr_spelled dr_rows dr_alike dr_near dr_asks dr_letters dr_words dr_askCount sh_lanes sh_sizes sh_cells la_xs la_ys la_heights la_ridgeXs la_ridgeHeights la_way la_blurs la_steps la_places la_ridges la_wayBlur la_wayLength bk_times bk_froms bk_asks bk_words bk_firsts bk_lies bk_held bk_size nu_learned nu_size to_letterMarks to_names to_spelled to_rows to_alike to_near to_asks to_letters to_words to_askCount) sz) r0) 0 0 (va_A (wX cB cI cJ cZ a (a 35) (a 4) ww_latestFault tp_bytes tp_size rd_fault rd_faultPlace rd_kind rd_start rd_at rd_number dr_letterMarks dr_names dr_spelled dr_rows dr_alike dr_near dr_asks dr_letters dr_words dr_askCount sh_lanes sh_sizes sh_cells la_xs la_ys la_heights la_ridgeXs la_ridgeHeights la_way la_blurs la_steps la_places la_ridges la_wayBlur la_wayLength bk_times bk_froms bk_asks bk_words bk_firsts bk_lies bk_held bk_size nu_learned nu_size to_letterMarks to_names to_spelled to_rows to_alike to_near to_asks to_letters to_words to_askCount) sz) := by
  refine Met.ofW (cc := cX7_fits) (maxL := 3) (ret := (some .boolean)) (by decide) rfl ?_
  intro p e s m args below meth c s₁ B hml hv
  obtain ⟨rfl, hsz, hP, hK, hD0, hE⟩ := hv
  have hx := B.exec
  have hb := B.bytes
  have hr := B.returns
  have hts := atoms_spec (ws := wsX7_fits) B.pre
  have hown : s.vm.findClass RX7 = some m.cls := findClass_of_methodNamed B.named
  have hlocks := B.notSynchronized
  subst hsz
  have hD := hD0.self (sz := s.heap.size)
  have hA : ∀ q : Nat, s.heap.size ≤ q → va_A (wX cB cI cJ cZ a (a 35) (a 4) ww_latestFault tp_bytes tp_size rd_fault rd_faultPlace rd_kind rd_start rd_at rd_number dr_letterMarks dr_names dr_spelled dr_rows dr_alike dr_near dr_asks dr_letters dr_words dr_askCount sh_lanes sh_sizes sh_cells la_xs la_ys la_heights la_ridgeXs la_ridgeHeights la_way la_blurs la_steps la_places la_ridges la_wayBlur la_wayLength bk_times bk_froms bk_asks bk_words bk_firsts bk_lies bk_held bk_size nu_learned nu_size to_letterMarks to_names to_spelled to_rows to_alike to_near to_asks to_letters to_words to_askCount) s.heap.size q := fun q h => Or.inr h
  generalize va_A (wX cB cI cJ cZ a (a 35) (a 4) ww_latestFault tp_bytes tp_size rd_fault rd_faultPlace rd_kind rd_start rd_at rd_number dr_letterMarks dr_names dr_spelled dr_rows dr_alike dr_near dr_asks dr_letters dr_words dr_askCount sh_lanes sh_sizes sh_cells la_xs la_ys la_heights la_ridgeXs la_ridgeHeights la_way la_blurs la_steps la_places la_ridges la_wayBlur la_wayLength bk_times bk_froms bk_asks bk_words bk_firsts bk_lies bk_held bk_size nu_learned nu_size to_letterMarks to_names to_spelled to_rows to_alike to_near to_asks to_letters to_words to_askCount) s.heap.size = A at hD hA hE ⊢
  have hS : va_S A s.heap s.heap [] := va_S.rf
  have C0 : cxt cX7_fits (some .boolean) 3 RX7 wsX7_fits (dC, dI) (tyz cB cI cJ cZ) (E_X adK adV) A p s m ([.ref (a 35), .int x1, .int x2] : List Value).toArray meth c := ⟨hx, hb, hr, hml, hown, hts, hlocks, hK, hA, hE⟩
  have hl := lv_entry ([.ref (a 35), .int x1, .int x2]) (n := 3) (Nat.le_of_ble_eq_true rfl)
  rw [lg_entry_eq]
  generalize (lg_sl ([.ref (a 35), .int x1, .int x2]) ++ List.replicate (3 - (lg_sl ([.ref (a 35), .int x1, .int x2])).length) Slot.unset).toArray = ls at hl ⊢
  have hl : lv_has ls 3 [(0, .ref (a 35)), (1, .int x1), (2, .int x2)] := hl
  have hw0 := hts (.fieldLink RX7 37 "WhistledWords$Tongue" "asks" "[I") (by decide +kernel)
  have hw1 := hts (.initialized RX8) (by decide +kernel)
  have hw2 := hts (.static yX8_isIn) (by decide +kernel)
  have hnX7 : ∀ w ∈ u_ws RX7 TX7 10, w ∈ wsX7_fits := fun _ h => List.mem_cons_of_mem _ (List.mem_append_right _ h)
  unfold fX7_fits at h
  refine lv_aload_n hx hb dX7_fits_0 rfl (lv_at hl 0 rfl) ?_
  refine lv_iload_n hx hb dX7_fits_1 rfl (lv_at hl 1 rfl) ?_
  obtain ⟨v1, hc, h⟩ := bd1_use h
  refine cv_i (As := [.int x1]) (rest := []) ⟨hx, hb, hml, hown, hts⟩ (kX7_isAsk l n dC dI cB cI cJ cZ a adK adV _ ww_latestFault tp_bytes tp_size rd_fault rd_faultPlace rd_kind rd_start rd_at rd_number dr_letterMarks dr_names dr_spelled dr_rows dr_alike dr_near dr_asks dr_letters dr_words dr_askCount sh_lanes sh_sizes sh_cells la_xs la_ys la_heights la_ridgeXs la_ridgeHeights la_way la_blurs la_steps la_places la_ridges la_wayBlur la_wayLength bk_times bk_froms bk_asks bk_words bk_firsts bk_lies bk_held bk_size nu_learned nu_size to_letterMarks to_names to_spelled to_rows to_alike to_near to_asks to_letters to_words to_askCount x1 v1 hc) (cwV 1 hts gX7_fits_X7_isAsk rfl rfl rfl (by decide +kernel) ⟨Nat.le_of_ble_eq_true rfl, Nat.le_of_ble_eq_true rfl⟩) EB_X hE hK hP hD hS hA 35 (ci := 6) rfl rfl rfl rfl hl.1 rfl (Nat.le_of_ble_eq_true rfl) dX7_fits_2 ⟨Nat.zero_le _, Nat.zero_le _⟩ (fun H locs hP hD hS => ?_)
  refine lv_if_eq (tgt := 33) hx hb dX7_fits_5 (by decide) (fun c2 => ?_) (fun c2 => ?_)
  · have h := it_use c2 h
    refine lv_iconst (v := 0) hx hb dX7_fits_33 (by decide) ?_
    obtain er := rt1_use h
    exact re_z hx hb hr hlocks hK hP hD hS (Or.inl rfl) er dX7_fits_34
  · have h := ie_use c2 h
    refine lv_aload_n hx hb dX7_fits_8 rfl (lv_at hl 0 rfl) ?_
    refine lv_iload_n hx hb dX7_fits_9 rfl (lv_at hl 2 rfl) ?_
    obtain ⟨v3, hc, h⟩ := bd1_use h
    refine cv_i (As := [.int x2]) (rest := []) ⟨hx, hb, hml, hown, hts⟩ (kX7_isWord l n dC dI cB cI cJ cZ a adK adV _ ww_latestFault tp_bytes tp_size rd_fault rd_faultPlace rd_kind rd_start rd_at rd_number dr_letterMarks dr_names dr_spelled dr_rows dr_alike dr_near dr_asks dr_letters dr_words dr_askCount sh_lanes sh_sizes sh_cells la_xs la_ys la_heights la_ridgeXs la_ridgeHeights la_way la_blurs la_steps la_places la_ridges la_wayBlur la_wayLength bk_times bk_froms bk_asks bk_words bk_firsts bk_lies bk_held bk_size nu_learned nu_size to_letterMarks to_names to_spelled to_rows to_alike to_near to_asks to_letters to_words to_askCount x2 v3 hc) (cwV 1 hts gX7_fits_X7_isWord rfl rfl rfl (by decide +kernel) ⟨Nat.le_of_ble_eq_true rfl, Nat.le_of_ble_eq_true rfl⟩) EB_X hE hK hP hD hS hA 35 (ci := 6) rfl rfl rfl rfl hl.1 rfl (Nat.le_of_ble_eq_true rfl) dX7_fits_10 ⟨Nat.zero_le _, Nat.zero_le _⟩ (fun H locs hP hD hS => ?_)
    refine lv_if_eq (tgt := 33) hx hb dX7_fits_13 (by decide) (fun c4 => ?_) (fun c4 => ?_)
    · have h := it_use c4 h
      refine lv_iconst (v := 0) hx hb dX7_fits_33 (by decide) ?_
      obtain er := rt1_use h
      exact re_z hx hb hr hlocks hK hP hD hS (Or.inl rfl) er dX7_fits_34
    · have h := ie_use c4 h
      refine lv_aload_n hx hb dX7_fits_16 rfl (lv_at hl 0 rfl) ?_
      refine gX_told_asks hx hb hts hnX7 hown hK hP hw0 dX7_fits_17 ?_
      refine lv_iload_n hx hb dX7_fits_20 rfl (lv_at hl 1 rfl) ?_
      obtain ⟨hiv5, h⟩ := ar_use h
      refine lX_told_asks hx hb hK hP hiv5 dX7_fits_21 ?_
      refine lv_topi (fun v5 ev5 => ?_)
      have h := h v5 ev5
      refine lv_iload_n hx hb dX7_fits_22 rfl (lv_at hl 2 rfl) ?_
      obtain ⟨v6, hc, h⟩ := bd1_use h
      refine cn_i (As := [.int v5, .int x2]) (rest := []) ⟨hx, hb, hml, hown, hts⟩ (kX8_isIn l n v5 x2 v6 hc) ⟨va_cnB 2 hts ggX7_fits_X8_isIn rfl rfl rfl (hE.1.2.2) hw1 (by decide +kernel) ⟨Nat.le_of_ble_eq_true rfl, Nat.le_of_ble_eq_true rfl⟩, hw2, trivial⟩ hP hS rfl hl.1 rfl (Nat.le_of_ble_eq_true rfl) dX7_fits_23 ⟨Nat.zero_le _, Nat.zero_le _⟩ (fun H locs hP hS => ?_)
      refine lv_if_eq (tgt := 33) hx hb dX7_fits_26 (by decide) (fun c7 => ?_) (fun c7 => ?_)
      · have h := it_use c7 h
        refine lv_iconst (v := 0) hx hb dX7_fits_33 (by decide) ?_
        obtain er := rt1_use h
        exact re_z hx hb hr hlocks hK hP hD hS (Or.inl rfl) er dX7_fits_34
      · have h := ie_use c7 h
        refine lv_iconst (v := 1) hx hb dX7_fits_29 (by decide) ?_
        refine lv_goto (tgt := 34) hx hb dX7_fits_30 (by decide) ?_
        obtain er := rt1_use h
        exact re_z hx hb hr hlocks hK hP hD hS (Or.inr rfl) er dX7_fits_34
set_option maxHeartbeats 4000000 in
set_option maxRecDepth 100000 in
theorem kX7_heardAs (l : Launch) (n : Nat) (dC : Nat → ClassId) (dI : Nat → Nat → Nat) (cB cI cJ cZ : ClassId) (a : Nat → Nat) (adK adV : Nat → Nat) (sz : Nat) (ww_latestFault : Int32) (tp_bytes : Nat → Int32) (tp_size : Int32) (rd_fault : Int32) (rd_faultPlace : Int32) (rd_kind : Int32) (rd_start : Int32) (rd_at : Int32) (rd_number : Int32) (dr_letterMarks : Nat → Int32) (dr_names : Nat → Int64) (dr_spelled : Nat → Int32) (dr_rows : Nat → Int64) (dr_alike : Nat → Int32) (dr_near : Nat → Int32) (dr_asks : Nat → Int32) (dr_letters : Int32) (dr_words : Int32) (dr_askCount : Int32) (sh_lanes : Nat → Int32) (sh_sizes : Nat → Int32) (sh_cells : Nat → Int32) (la_xs : Nat → Int32) (la_ys : Nat → Int32) (la_heights : Nat → Int32) (la_ridgeXs : Nat → Int32) (la_ridgeHeights : Nat → Int32) (la_way : Nat → Int32) (la_blurs : Nat → Int32) (la_steps : Nat → Int32) (la_places : Int32) (la_ridges : Int32) (la_wayBlur : Int32) (la_wayLength : Int32) (bk_times : Nat → Int32) (bk_froms : Nat → Int32) (bk_asks : Nat → Int32) (bk_words : Nat → Int32) (bk_firsts : Nat → Int32) (bk_lies : Nat → Int32) (bk_held : Nat → Int32) (bk_size : Int32) (nu_learned : Nat → Int32) (nu_size : Int32) (to_letterMarks : Nat → Int32) (to_names : Nat → Int64) (to_spelled : Nat → Int32) (to_rows : Nat → Int64) (to_alike : Nat → Int32) (to_near : Nat → Int32) (to_asks : Nat → Int32) (to_letters : Int32) (to_words : Int32) (to_askCount : Int32) (x1 : Int32) (x2 : Int32) (x3 : Int32) (r0 : Int32) (h : fX7_heardAs n to_alike to_asks x1 x2 x3 = some r0) : Met l yX7_heardAs wsX7_heardAs ({ frames := 1, cells := 0, slots := 0, locals := 22 }) (gP (dC, dI) (tyz cB cI cJ cZ) (E_X adK adV) (wX cB cI cJ cZ a (a 35) (a 4) ww_latestFault tp_bytes tp_size rd_fault rd_faultPlace rd_kind rd_start rd_at rd_number dr_letterMarks dr_names dr_spelled dr_rows dr_alike dr_near dr_asks dr_letters dr_words dr_askCount sh_lanes sh_sizes sh_cells la_xs la_ys la_heights la_ridgeXs la_ridgeHeights la_way la_blurs la_steps la_places la_ridges la_wayBlur la_wayLength bk_times bk_froms bk_asks bk_words bk_firsts bk_lies bk_held bk_size nu_learned nu_size to_letterMarks to_names to_spelled to_rows to_alike to_near to_asks to_letters to_words to_askCount) sz [.ref (a 35), .int x1, .int x2, .int x3]) (gI (dC, dI) (tyz cB cI cJ cZ) (wX cB cI cJ cZ a (a 35) (a 4) ww_latestFault tp_bytes tp_size rd_fault rd_faultPlace rd_kind rd_start rd_at rd_number dr_letterMarks dr_names dr_spelled dr_rows dr_alike dr_near dr_asks dr_letters dr_words dr_askCount sh_lanes sh_sizes sh_cells la_xs la_ys la_heights la_ridgeXs la_ridgeHeights la_way la_blurs la_steps la_places la_ridges la_wayBlur la_wayLength bk_times bk_froms bk_asks bk_words bk_firsts bk_lies bk_held bk_size nu_learned nu_size to_letterMarks to_names to_spelled to_rows to_alike to_near to_asks to_letters to_words to_askCount) (va_A (wX cB cI cJ cZ a (a 35) (a 4) ww_latestFault tp_bytes tp_size rd_fault rd_faultPlace rd_kind rd_start rd_at rd_number dr_letterMarks dr_names dr_spelled dr_rows dr_alike dr_near dr_asks dr_letters dr_words dr_askCount sh_lanes sh_sizes sh_cells la_xs la_ys la_heights la_ridgeXs la_ridgeHeights la_way la_blurs la_steps la_places la_ridges la_wayBlur la_wayLength bk_times bk_froms bk_asks bk_words bk_firsts bk_lies bk_held bk_size nu_learned nu_size to_letterMarks to_names to_spelled to_rows to_alike to_near to_asks to_letters to_words to_askCount) sz) r0) 0 0 (va_A (wX cB cI cJ cZ a (a 35) (a 4) ww_latestFault tp_bytes tp_size rd_fault rd_faultPlace rd_kind rd_start rd_at rd_number dr_letterMarks dr_names dr_spelled dr_rows dr_alike dr_near dr_asks dr_letters dr_words dr_askCount sh_lanes sh_sizes sh_cells la_xs la_ys la_heights la_ridgeXs la_ridgeHeights la_way la_blurs la_steps la_places la_ridges la_wayBlur la_wayLength bk_times bk_froms bk_asks bk_words bk_firsts bk_lies bk_held bk_size nu_learned nu_size to_letterMarks to_names to_spelled to_rows to_alike to_near to_asks to_letters to_words to_askCount) sz) := by
  refine Met.ofW (cc := cX7_heardAs) (maxL := 4) (ret := (some .int)) (by decide) rfl ?_
  intro p e s m args below meth c s₁ B hml hv
  obtain ⟨rfl, hsz, hP, hK, hD0, hE⟩ := hv
  have hx := B.exec
  have hb := B.bytes
  have hr := B.returns
  have hts := atoms_spec (ws := wsX7_heardAs) B.pre
  have hown : s.vm.findClass RX7 = some m.cls := findClass_of_methodNamed B.named
  have hlocks := B.notSynchronized
  subst hsz
  have hD := hD0.self (sz := s.heap.size)
  have hA : ∀ q : Nat, s.heap.size ≤ q → va_A (wX cB cI cJ cZ a (a 35) (a 4) ww_latestFault tp_bytes tp_size rd_fault rd_faultPlace rd_kind rd_start rd_at rd_number dr_letterMarks dr_names dr_spelled dr_rows dr_alike dr_near dr_asks dr_letters dr_words dr_askCount sh_lanes sh_sizes sh_cells la_xs la_ys la_heights la_ridgeXs la_ridgeHeights la_way la_blurs la_steps la_places la_ridges la_wayBlur la_wayLength bk_times bk_froms bk_asks bk_words bk_firsts bk_lies bk_held bk_size nu_learned nu_size to_letterMarks to_names to_spelled to_rows to_alike to_near to_asks to_letters to_words to_askCount) s.heap.size q := fun q h => Or.inr h
  generalize va_A (wX cB cI cJ cZ a (a 35) (a 4) ww_latestFault tp_bytes tp_size rd_fault rd_faultPlace rd_kind rd_start rd_at rd_number dr_letterMarks dr_names dr_spelled dr_rows dr_alike dr_near dr_asks dr_letters dr_words dr_askCount sh_lanes sh_sizes sh_cells la_xs la_ys la_heights la_ridgeXs la_ridgeHeights la_way la_blurs la_steps la_places la_ridges la_wayBlur la_wayLength bk_times bk_froms bk_asks bk_words bk_firsts bk_lies bk_held bk_size nu_learned nu_size to_letterMarks to_names to_spelled to_rows to_alike to_near to_asks to_letters to_words to_askCount) s.heap.size = A at hD hA hE ⊢
  have hS : va_S A s.heap s.heap [] := va_S.rf
  have C0 : cxt cX7_heardAs (some .int) 4 RX7 wsX7_heardAs (dC, dI) (tyz cB cI cJ cZ) (E_X adK adV) A p s m ([.ref (a 35), .int x1, .int x2, .int x3] : List Value).toArray meth c := ⟨hx, hb, hr, hml, hown, hts, hlocks, hK, hA, hE⟩
  have hl := lv_entry ([.ref (a 35), .int x1, .int x2, .int x3]) (n := 4) (Nat.le_of_ble_eq_true rfl)
  rw [lg_entry_eq]
  generalize (lg_sl ([.ref (a 35), .int x1, .int x2, .int x3]) ++ List.replicate (4 - (lg_sl ([.ref (a 35), .int x1, .int x2, .int x3])).length) Slot.unset).toArray = ls at hl ⊢
  have hl : lv_has ls 4 [(0, .ref (a 35)), (1, .int x1), (2, .int x2), (3, .int x3)] := hl
  have hw0 := hts (.fieldLink RX7 37 "WhistledWords$Tongue" "asks" "[I") (by decide +kernel)
  have hnX7 : ∀ w ∈ u_ws RX7 TX7 10, w ∈ wsX7_heardAs := fun _ h => List.mem_cons_of_mem _ (List.mem_append_right _ h)
  unfold fX7_heardAs at h
  refine lv_aload_n hx hb dX7_heardAs_0 rfl (lv_at hl 0 rfl) ?_
  refine gX_told_asks hx hb hts hnX7 hown hK hP hw0 dX7_heardAs_1 ?_
  refine lv_iload_n hx hb dX7_heardAs_4 rfl (lv_at hl 1 rfl) ?_
  obtain ⟨hiv1, h⟩ := ar_use h
  refine lX_told_asks hx hb hK hP hiv1 dX7_heardAs_5 ?_
  refine lv_topi (fun v1 ev1 => ?_)
  have h := h v1 ev1
  refine lv_aload_n hx hb dX7_heardAs_6 rfl (lv_at hl 0 rfl) ?_
  refine lv_iload_n hx hb dX7_heardAs_7 rfl (lv_at hl 2 rfl) ?_
  refine lv_iload_n hx hb dX7_heardAs_8 rfl (lv_at hl 3 rfl) ?_
  obtain ⟨v2, hc, h⟩ := bd1_use h
  refine cv_i (As := [.int x2, .int x3]) (rest := [.int v1]) ⟨hx, hb, hml, hown, hts⟩ (kX7_alikeTo l n dC dI cB cI cJ cZ a adK adV _ ww_latestFault tp_bytes tp_size rd_fault rd_faultPlace rd_kind rd_start rd_at rd_number dr_letterMarks dr_names dr_spelled dr_rows dr_alike dr_near dr_asks dr_letters dr_words dr_askCount sh_lanes sh_sizes sh_cells la_xs la_ys la_heights la_ridgeXs la_ridgeHeights la_way la_blurs la_steps la_places la_ridges la_wayBlur la_wayLength bk_times bk_froms bk_asks bk_words bk_firsts bk_lies bk_held bk_size nu_learned nu_size to_letterMarks to_names to_spelled to_rows to_alike to_near to_asks to_letters to_words to_askCount x2 x3 v2 hc) (cwV 2 hts gX7_heardAs_X7_alikeTo rfl rfl rfl (by decide +kernel) ⟨Nat.le_of_ble_eq_true rfl, Nat.le_of_ble_eq_true rfl⟩) EB_X hE hK hP hD hS hA 35 (ci := 6) rfl rfl rfl rfl hl.1 rfl (Nat.le_of_ble_eq_true rfl) dX7_heardAs_9 ⟨Nat.zero_le _, Nat.zero_le _⟩ (fun H locs hP hD hS => ?_)
  refine lv_iand hx hb dX7_heardAs_12 ?_
  obtain er := rt1_use h
  exact re_i hx hb hr hlocks hK hP hD hS er dX7_heardAs_13
set_option maxHeartbeats 4000000 in
set_option maxRecDepth 100000 in
theorem kX8_both (l : Launch) (n : Nat) (dC : Nat → ClassId) (dI : Nat → Nat → Nat) (cB cI cJ cZ : ClassId) (a : Nat → Nat) (adK adV : Nat → Nat) (sz : Nat) (ww_latestFault : Int32) (tp_bytes : Nat → Int32) (tp_size : Int32) (rd_fault : Int32) (rd_faultPlace : Int32) (rd_kind : Int32) (rd_start : Int32) (rd_at : Int32) (rd_number : Int32) (dr_letterMarks : Nat → Int32) (dr_names : Nat → Int64) (dr_spelled : Nat → Int32) (dr_rows : Nat → Int64) (dr_alike : Nat → Int32) (dr_near : Nat → Int32) (dr_asks : Nat → Int32) (dr_letters : Int32) (dr_words : Int32) (dr_askCount : Int32) (sh_lanes : Nat → Int32) (sh_sizes : Nat → Int32) (sh_cells : Nat → Int32) (la_xs : Nat → Int32) (la_ys : Nat → Int32) (la_heights : Nat → Int32) (la_ridgeXs : Nat → Int32) (la_ridgeHeights : Nat → Int32) (la_way : Nat → Int32) (la_blurs : Nat → Int32) (la_steps : Nat → Int32) (la_places : Int32) (la_ridges : Int32) (la_wayBlur : Int32) (la_wayLength : Int32) (bk_times : Nat → Int32) (bk_froms : Nat → Int32) (bk_asks : Nat → Int32) (bk_words : Nat → Int32) (bk_firsts : Nat → Int32) (bk_lies : Nat → Int32) (bk_held : Nat → Int32) (bk_size : Int32) (nu_learned : Nat → Int32) (nu_size : Int32) (to_letterMarks : Nat → Int32) (to_names : Nat → Int64) (to_spelled : Nat → Int32) (to_rows : Nat → Int64) (to_alike : Nat → Int32) (to_near : Nat → Int32) (to_asks : Nat → Int32) (to_letters : Int32) (to_words : Int32) (to_askCount : Int32) (x1 : Int32) (x2 : Int32) (x3 : Int32) (x4 : Int32) (r0 : Int32) (h : fX8_both n to_alike to_asks to_words to_askCount x1 x2 x3 x4 = some r0) : Met l yX8_both wsX8_both ({ frames := 2, cells := 0, slots := 0, locals := 45 }) (gP (dC, dI) (tyz cB cI cJ cZ) (E_X adK adV) (wX cB cI cJ cZ a (a 35) (a 4) ww_latestFault tp_bytes tp_size rd_fault rd_faultPlace rd_kind rd_start rd_at rd_number dr_letterMarks dr_names dr_spelled dr_rows dr_alike dr_near dr_asks dr_letters dr_words dr_askCount sh_lanes sh_sizes sh_cells la_xs la_ys la_heights la_ridgeXs la_ridgeHeights la_way la_blurs la_steps la_places la_ridges la_wayBlur la_wayLength bk_times bk_froms bk_asks bk_words bk_firsts bk_lies bk_held bk_size nu_learned nu_size to_letterMarks to_names to_spelled to_rows to_alike to_near to_asks to_letters to_words to_askCount) sz [.ref (a 0), .int x1, .int x2, .int x3, .int x4]) (gI (dC, dI) (tyz cB cI cJ cZ) (wX cB cI cJ cZ a (a 35) (a 4) ww_latestFault tp_bytes tp_size rd_fault rd_faultPlace rd_kind rd_start rd_at rd_number dr_letterMarks dr_names dr_spelled dr_rows dr_alike dr_near dr_asks dr_letters dr_words dr_askCount sh_lanes sh_sizes sh_cells la_xs la_ys la_heights la_ridgeXs la_ridgeHeights la_way la_blurs la_steps la_places la_ridges la_wayBlur la_wayLength bk_times bk_froms bk_asks bk_words bk_firsts bk_lies bk_held bk_size nu_learned nu_size to_letterMarks to_names to_spelled to_rows to_alike to_near to_asks to_letters to_words to_askCount) (va_A (wX cB cI cJ cZ a (a 35) (a 4) ww_latestFault tp_bytes tp_size rd_fault rd_faultPlace rd_kind rd_start rd_at rd_number dr_letterMarks dr_names dr_spelled dr_rows dr_alike dr_near dr_asks dr_letters dr_words dr_askCount sh_lanes sh_sizes sh_cells la_xs la_ys la_heights la_ridgeXs la_ridgeHeights la_way la_blurs la_steps la_places la_ridges la_wayBlur la_wayLength bk_times bk_froms bk_asks bk_words bk_firsts bk_lies bk_held bk_size nu_learned nu_size to_letterMarks to_names to_spelled to_rows to_alike to_near to_asks to_letters to_words to_askCount) sz) r0) 0 0 (va_A (wX cB cI cJ cZ a (a 35) (a 4) ww_latestFault tp_bytes tp_size rd_fault rd_faultPlace rd_kind rd_start rd_at rd_number dr_letterMarks dr_names dr_spelled dr_rows dr_alike dr_near dr_asks dr_letters dr_words dr_askCount sh_lanes sh_sizes sh_cells la_xs la_ys la_heights la_ridgeXs la_ridgeHeights la_way la_blurs la_steps la_places la_ridges la_wayBlur la_wayLength bk_times bk_froms bk_asks bk_words bk_firsts bk_lies bk_held bk_size nu_learned nu_size to_letterMarks to_names to_spelled to_rows to_alike to_near to_asks to_letters to_words to_askCount) sz) := by
  refine Met.ofW (cc := cX8_both) (maxL := 5) (ret := (some .int)) (by decide) rfl ?_
  intro p e s m args below meth c s₁ B hml hv
  obtain ⟨rfl, hsz, hP, hK, hD0, hE⟩ := hv
  have hx := B.exec
  have hb := B.bytes
  have hr := B.returns
  have hts := atoms_spec (ws := wsX8_both) B.pre
  have hown : s.vm.findClass RX8 = some m.cls := findClass_of_methodNamed B.named
  have hlocks := B.notSynchronized
  subst hsz
  have hD := hD0.self (sz := s.heap.size)
  have hA : ∀ q : Nat, s.heap.size ≤ q → va_A (wX cB cI cJ cZ a (a 35) (a 4) ww_latestFault tp_bytes tp_size rd_fault rd_faultPlace rd_kind rd_start rd_at rd_number dr_letterMarks dr_names dr_spelled dr_rows dr_alike dr_near dr_asks dr_letters dr_words dr_askCount sh_lanes sh_sizes sh_cells la_xs la_ys la_heights la_ridgeXs la_ridgeHeights la_way la_blurs la_steps la_places la_ridges la_wayBlur la_wayLength bk_times bk_froms bk_asks bk_words bk_firsts bk_lies bk_held bk_size nu_learned nu_size to_letterMarks to_names to_spelled to_rows to_alike to_near to_asks to_letters to_words to_askCount) s.heap.size q := fun q h => Or.inr h
  generalize va_A (wX cB cI cJ cZ a (a 35) (a 4) ww_latestFault tp_bytes tp_size rd_fault rd_faultPlace rd_kind rd_start rd_at rd_number dr_letterMarks dr_names dr_spelled dr_rows dr_alike dr_near dr_asks dr_letters dr_words dr_askCount sh_lanes sh_sizes sh_cells la_xs la_ys la_heights la_ridgeXs la_ridgeHeights la_way la_blurs la_steps la_places la_ridges la_wayBlur la_wayLength bk_times bk_froms bk_asks bk_words bk_firsts bk_lies bk_held bk_size nu_learned nu_size to_letterMarks to_names to_spelled to_rows to_alike to_near to_asks to_letters to_words to_askCount) s.heap.size = A at hD hA hE ⊢
  have hS : va_S A s.heap s.heap [] := va_S.rf
  have C0 : cxt cX8_both (some .int) 5 RX8 wsX8_both (dC, dI) (tyz cB cI cJ cZ) (E_X adK adV) A p s m ([.ref (a 0), .int x1, .int x2, .int x3, .int x4] : List Value).toArray meth c := ⟨hx, hb, hr, hml, hown, hts, hlocks, hK, hA, hE⟩
  have hl := lv_entry ([.ref (a 0), .int x1, .int x2, .int x3, .int x4]) (n := 5) (Nat.le_of_ble_eq_true rfl)
  rw [lg_entry_eq]
  generalize (lg_sl ([.ref (a 0), .int x1, .int x2, .int x3, .int x4]) ++ List.replicate (5 - (lg_sl ([.ref (a 0), .int x1, .int x2, .int x3, .int x4])).length) Slot.unset).toArray = ls at hl ⊢
  have hl : lv_has ls 5 [(0, .ref (a 0)), (1, .int x1), (2, .int x2), (3, .int x3), (4, .int x4)] := hl
  have hw0 := hts (.fieldLink RX8 60 "WhistledWords" "told" "LWhistledWords$Tongue;") (by decide +kernel)
  have hnX8 : ∀ w ∈ u_ws RX8 TX8 8, w ∈ wsX8_both := fun _ h => List.mem_cons_of_mem _ (List.mem_append_left _ (List.mem_append_right _ h))
  unfold fX8_both at h
  refine lv_aload_n hx hb dX8_both_0 rfl (lv_at hl 0 rfl) ?_
  refine gX_ww_told hx hb hts hnX8 hown hK hP hw0 dX8_both_1 ?_
  refine lv_iload_n hx hb dX8_both_4 rfl (lv_at hl 1 rfl) ?_
  refine lv_iload_n hx hb dX8_both_5 rfl (lv_at hl 2 rfl) ?_
  obtain ⟨v1, hc, h⟩ := bd1_use h
  refine cv_i (As := [.int x1, .int x2]) (rest := []) ⟨hx, hb, hml, hown, hts⟩ (kX7_fits l n dC dI cB cI cJ cZ a adK adV _ ww_latestFault tp_bytes tp_size rd_fault rd_faultPlace rd_kind rd_start rd_at rd_number dr_letterMarks dr_names dr_spelled dr_rows dr_alike dr_near dr_asks dr_letters dr_words dr_askCount sh_lanes sh_sizes sh_cells la_xs la_ys la_heights la_ridgeXs la_ridgeHeights la_way la_blurs la_steps la_places la_ridges la_wayBlur la_wayLength bk_times bk_froms bk_asks bk_words bk_firsts bk_lies bk_held bk_size nu_learned nu_size to_letterMarks to_names to_spelled to_rows to_alike to_near to_asks to_letters to_words to_askCount x1 x2 v1 hc) (cwV 2 hts gX8_both_X7_fits rfl rfl rfl (by decide +kernel) ⟨Nat.le_of_ble_eq_true rfl, Nat.le_of_ble_eq_true rfl⟩) EB_X hE hK hP hD hS hA 35 (ci := 6) rfl rfl rfl rfl hl.1 rfl (Nat.le_of_ble_eq_true rfl) dX8_both_6 ⟨Nat.zero_le _, Nat.zero_le _⟩ (fun H locs hP hD hS => ?_)
  refine lv_if_eq (tgt := 27) hx hb dX8_both_9 (by decide) (fun c2 => ?_) (fun c2 => ?_)
  · have h := it_use c2 h
    refine lv_iconst (v := -1) hx hb dX8_both_27 (by decide) ?_
    obtain er := rt1_use h
    exact re_i hx hb hr hlocks hK hP hD hS er dX8_both_28
  · have h := ie_use c2 h
    refine lv_iload_n hx hb dX8_both_12 rfl (lv_at hl 3 rfl) ?_
    obtain ⟨v3, hc, h⟩ := bd1_use h
    refine cs_i (As := [.int x3]) (rest := []) ⟨hx, hb, hml, hown, hts⟩ (kX8_isBlur l n x3 v3 hc) (va_cwS 1 hts gX8_both_X8_isBlur rfl rfl rfl (by decide +kernel) ⟨Nat.le_of_ble_eq_true rfl, Nat.le_of_ble_eq_true rfl⟩) hP hS rfl hl.1 rfl (Nat.le_of_ble_eq_true rfl) dX8_both_13 ⟨Nat.zero_le _, Nat.zero_le _⟩ (fun H locs hP hS => ?_)
    refine lv_if_eq (tgt := 27) hx hb dX8_both_16 (by decide) (fun c4 => ?_) (fun c4 => ?_)
    · have h := it_use c4 h
      refine lv_iconst (v := -1) hx hb dX8_both_27 (by decide) ?_
      obtain er := rt1_use h
      exact re_i hx hb hr hlocks hK hP hD hS er dX8_both_28
    · have h := ie_use c4 h
      refine lv_iload hx hb dX8_both_19 (lv_at hl 4 rfl) ?_
      obtain ⟨v5, hc, h⟩ := bd1_use h
      refine cs_i (As := [.int x4]) (rest := []) ⟨hx, hb, hml, hown, hts⟩ (kX8_isBlur l n x4 v5 hc) (va_cwS 1 hts gX8_both_X8_isBlur rfl rfl rfl (by decide +kernel) ⟨Nat.le_of_ble_eq_true rfl, Nat.le_of_ble_eq_true rfl⟩) hP hS rfl hl.1 rfl (Nat.le_of_ble_eq_true rfl) dX8_both_21 ⟨Nat.zero_le _, Nat.zero_le _⟩ (fun H locs hP hS => ?_)
      refine lv_if_ne (tgt := 29) hx hb dX8_both_24 (by decide) (fun c6 => ?_) (fun c6 => ?_)
      · have h := ie_use c6 h
        refine lv_aload_n hx hb dX8_both_29 rfl (lv_at hl 0 rfl) ?_
        refine gX_ww_told hx hb hts hnX8 hown hK hP hw0 dX8_both_30 ?_
        refine lv_iload_n hx hb dX8_both_33 rfl (lv_at hl 1 rfl) ?_
        refine lv_iload_n hx hb dX8_both_34 rfl (lv_at hl 2 rfl) ?_
        refine lv_iload_n hx hb dX8_both_35 rfl (lv_at hl 3 rfl) ?_
        obtain ⟨v7, hc, h⟩ := bd1_use h
        refine cv_i (As := [.int x1, .int x2, .int x3]) (rest := []) ⟨hx, hb, hml, hown, hts⟩ (kX7_heardAs l n dC dI cB cI cJ cZ a adK adV _ ww_latestFault tp_bytes tp_size rd_fault rd_faultPlace rd_kind rd_start rd_at rd_number dr_letterMarks dr_names dr_spelled dr_rows dr_alike dr_near dr_asks dr_letters dr_words dr_askCount sh_lanes sh_sizes sh_cells la_xs la_ys la_heights la_ridgeXs la_ridgeHeights la_way la_blurs la_steps la_places la_ridges la_wayBlur la_wayLength bk_times bk_froms bk_asks bk_words bk_firsts bk_lies bk_held bk_size nu_learned nu_size to_letterMarks to_names to_spelled to_rows to_alike to_near to_asks to_letters to_words to_askCount x1 x2 x3 v7 hc) (cwV 3 hts gX8_both_X7_heardAs rfl rfl rfl (by decide +kernel) ⟨Nat.le_of_ble_eq_true rfl, Nat.le_of_ble_eq_true rfl⟩) EB_X hE hK hP hD hS hA 35 (ci := 6) rfl rfl rfl rfl hl.1 rfl (Nat.le_of_ble_eq_true rfl) dX8_both_36 ⟨Nat.zero_le _, Nat.zero_le _⟩ (fun H locs hP hD hS => ?_)
        refine lv_aload_n hx hb dX8_both_39 rfl (lv_at hl 0 rfl) ?_
        refine gX_ww_told hx hb hts hnX8 hown hK hP hw0 dX8_both_40 ?_
        refine lv_iload_n hx hb dX8_both_43 rfl (lv_at hl 1 rfl) ?_
        refine lv_iload_n hx hb dX8_both_44 rfl (lv_at hl 2 rfl) ?_
        refine lv_iload hx hb dX8_both_45 (lv_at hl 4 rfl) ?_
        obtain ⟨v8, hc, h⟩ := bd1_use h
        refine cv_i (As := [.int x1, .int x2, .int x4]) (rest := [.int v7]) ⟨hx, hb, hml, hown, hts⟩ (kX7_heardAs l n dC dI cB cI cJ cZ a adK adV _ ww_latestFault tp_bytes tp_size rd_fault rd_faultPlace rd_kind rd_start rd_at rd_number dr_letterMarks dr_names dr_spelled dr_rows dr_alike dr_near dr_asks dr_letters dr_words dr_askCount sh_lanes sh_sizes sh_cells la_xs la_ys la_heights la_ridgeXs la_ridgeHeights la_way la_blurs la_steps la_places la_ridges la_wayBlur la_wayLength bk_times bk_froms bk_asks bk_words bk_firsts bk_lies bk_held bk_size nu_learned nu_size to_letterMarks to_names to_spelled to_rows to_alike to_near to_asks to_letters to_words to_askCount x1 x2 x4 v8 hc) (cwV 3 hts gX8_both_X7_heardAs rfl rfl rfl (by decide +kernel) ⟨Nat.le_of_ble_eq_true rfl, Nat.le_of_ble_eq_true rfl⟩) EB_X hE hK hP hD hS hA 35 (ci := 6) rfl rfl rfl rfl hl.1 rfl (Nat.le_of_ble_eq_true rfl) dX8_both_47 ⟨Nat.zero_le _, Nat.zero_le _⟩ (fun H locs hP hD hS => ?_)
        refine lv_iand hx hb dX8_both_50 ?_
        obtain er := rt1_use h
        exact re_i hx hb hr hlocks hK hP hD hS er dX8_both_51
      · have h := it_use c6 h
        refine lv_iconst (v := -1) hx hb dX8_both_27 (by decide) ?_
        obtain er := rt1_use h
        exact re_i hx hb hr hlocks hK hP hD hS er dX8_both_28
set_option maxHeartbeats 4000000 in
set_option maxRecDepth 100000 in
theorem kX7_isSure (l : Launch) (n : Nat) (dC : Nat → ClassId) (dI : Nat → Nat → Nat) (cB cI cJ cZ : ClassId) (a : Nat → Nat) (adK adV : Nat → Nat) (sz : Nat) (ww_latestFault : Int32) (tp_bytes : Nat → Int32) (tp_size : Int32) (rd_fault : Int32) (rd_faultPlace : Int32) (rd_kind : Int32) (rd_start : Int32) (rd_at : Int32) (rd_number : Int32) (dr_letterMarks : Nat → Int32) (dr_names : Nat → Int64) (dr_spelled : Nat → Int32) (dr_rows : Nat → Int64) (dr_alike : Nat → Int32) (dr_near : Nat → Int32) (dr_asks : Nat → Int32) (dr_letters : Int32) (dr_words : Int32) (dr_askCount : Int32) (sh_lanes : Nat → Int32) (sh_sizes : Nat → Int32) (sh_cells : Nat → Int32) (la_xs : Nat → Int32) (la_ys : Nat → Int32) (la_heights : Nat → Int32) (la_ridgeXs : Nat → Int32) (la_ridgeHeights : Nat → Int32) (la_way : Nat → Int32) (la_blurs : Nat → Int32) (la_steps : Nat → Int32) (la_places : Int32) (la_ridges : Int32) (la_wayBlur : Int32) (la_wayLength : Int32) (bk_times : Nat → Int32) (bk_froms : Nat → Int32) (bk_asks : Nat → Int32) (bk_words : Nat → Int32) (bk_firsts : Nat → Int32) (bk_lies : Nat → Int32) (bk_held : Nat → Int32) (bk_size : Int32) (nu_learned : Nat → Int32) (nu_size : Int32) (to_letterMarks : Nat → Int32) (to_names : Nat → Int64) (to_spelled : Nat → Int32) (to_rows : Nat → Int64) (to_alike : Nat → Int32) (to_near : Nat → Int32) (to_asks : Nat → Int32) (to_letters : Int32) (to_words : Int32) (to_askCount : Int32) (x1 : Int32) (x2 : Int32) (x3 : Int32) (r0 : Int32) (h : fX7_isSure n to_alike to_asks x1 x2 x3 = some r0) : Met l yX7_isSure wsX7_isSure ({ frames := 2, cells := 0, slots := 0, locals := 45 }) (gP (dC, dI) (tyz cB cI cJ cZ) (E_X adK adV) (wX cB cI cJ cZ a (a 35) (a 4) ww_latestFault tp_bytes tp_size rd_fault rd_faultPlace rd_kind rd_start rd_at rd_number dr_letterMarks dr_names dr_spelled dr_rows dr_alike dr_near dr_asks dr_letters dr_words dr_askCount sh_lanes sh_sizes sh_cells la_xs la_ys la_heights la_ridgeXs la_ridgeHeights la_way la_blurs la_steps la_places la_ridges la_wayBlur la_wayLength bk_times bk_froms bk_asks bk_words bk_firsts bk_lies bk_held bk_size nu_learned nu_size to_letterMarks to_names to_spelled to_rows to_alike to_near to_asks to_letters to_words to_askCount) sz [.ref (a 35), .int x1, .int x2, .int x3]) (gI (dC, dI) (tyz cB cI cJ cZ) (wX cB cI cJ cZ a (a 35) (a 4) ww_latestFault tp_bytes tp_size rd_fault rd_faultPlace rd_kind rd_start rd_at rd_number dr_letterMarks dr_names dr_spelled dr_rows dr_alike dr_near dr_asks dr_letters dr_words dr_askCount sh_lanes sh_sizes sh_cells la_xs la_ys la_heights la_ridgeXs la_ridgeHeights la_way la_blurs la_steps la_places la_ridges la_wayBlur la_wayLength bk_times bk_froms bk_asks bk_words bk_firsts bk_lies bk_held bk_size nu_learned nu_size to_letterMarks to_names to_spelled to_rows to_alike to_near to_asks to_letters to_words to_askCount) (va_A (wX cB cI cJ cZ a (a 35) (a 4) ww_latestFault tp_bytes tp_size rd_fault rd_faultPlace rd_kind rd_start rd_at rd_number dr_letterMarks dr_names dr_spelled dr_rows dr_alike dr_near dr_asks dr_letters dr_words dr_askCount sh_lanes sh_sizes sh_cells la_xs la_ys la_heights la_ridgeXs la_ridgeHeights la_way la_blurs la_steps la_places la_ridges la_wayBlur la_wayLength bk_times bk_froms bk_asks bk_words bk_firsts bk_lies bk_held bk_size nu_learned nu_size to_letterMarks to_names to_spelled to_rows to_alike to_near to_asks to_letters to_words to_askCount) sz) r0) 0 0 (va_A (wX cB cI cJ cZ a (a 35) (a 4) ww_latestFault tp_bytes tp_size rd_fault rd_faultPlace rd_kind rd_start rd_at rd_number dr_letterMarks dr_names dr_spelled dr_rows dr_alike dr_near dr_asks dr_letters dr_words dr_askCount sh_lanes sh_sizes sh_cells la_xs la_ys la_heights la_ridgeXs la_ridgeHeights la_way la_blurs la_steps la_places la_ridges la_wayBlur la_wayLength bk_times bk_froms bk_asks bk_words bk_firsts bk_lies bk_held bk_size nu_learned nu_size to_letterMarks to_names to_spelled to_rows to_alike to_near to_asks to_letters to_words to_askCount) sz) := by
  refine Met.ofW (cc := cX7_isSure) (maxL := 4) (ret := (some .boolean)) (by decide) rfl ?_
  intro p e s m args below meth c s₁ B hml hv
  obtain ⟨rfl, hsz, hP, hK, hD0, hE⟩ := hv
  have hx := B.exec
  have hb := B.bytes
  have hr := B.returns
  have hts := atoms_spec (ws := wsX7_isSure) B.pre
  have hown : s.vm.findClass RX7 = some m.cls := findClass_of_methodNamed B.named
  have hlocks := B.notSynchronized
  subst hsz
  have hD := hD0.self (sz := s.heap.size)
  have hA : ∀ q : Nat, s.heap.size ≤ q → va_A (wX cB cI cJ cZ a (a 35) (a 4) ww_latestFault tp_bytes tp_size rd_fault rd_faultPlace rd_kind rd_start rd_at rd_number dr_letterMarks dr_names dr_spelled dr_rows dr_alike dr_near dr_asks dr_letters dr_words dr_askCount sh_lanes sh_sizes sh_cells la_xs la_ys la_heights la_ridgeXs la_ridgeHeights la_way la_blurs la_steps la_places la_ridges la_wayBlur la_wayLength bk_times bk_froms bk_asks bk_words bk_firsts bk_lies bk_held bk_size nu_learned nu_size to_letterMarks to_names to_spelled to_rows to_alike to_near to_asks to_letters to_words to_askCount) s.heap.size q := fun q h => Or.inr h
  generalize va_A (wX cB cI cJ cZ a (a 35) (a 4) ww_latestFault tp_bytes tp_size rd_fault rd_faultPlace rd_kind rd_start rd_at rd_number dr_letterMarks dr_names dr_spelled dr_rows dr_alike dr_near dr_asks dr_letters dr_words dr_askCount sh_lanes sh_sizes sh_cells la_xs la_ys la_heights la_ridgeXs la_ridgeHeights la_way la_blurs la_steps la_places la_ridges la_wayBlur la_wayLength bk_times bk_froms bk_asks bk_words bk_firsts bk_lies bk_held bk_size nu_learned nu_size to_letterMarks to_names to_spelled to_rows to_alike to_near to_asks to_letters to_words to_askCount) s.heap.size = A at hD hA hE ⊢
  have hS : va_S A s.heap s.heap [] := va_S.rf
  have C0 : cxt cX7_isSure (some .boolean) 4 RX7 wsX7_isSure (dC, dI) (tyz cB cI cJ cZ) (E_X adK adV) A p s m ([.ref (a 35), .int x1, .int x2, .int x3] : List Value).toArray meth c := ⟨hx, hb, hr, hml, hown, hts, hlocks, hK, hA, hE⟩
  have hl := lv_entry ([.ref (a 35), .int x1, .int x2, .int x3]) (n := 4) (Nat.le_of_ble_eq_true rfl)
  rw [lg_entry_eq]
  generalize (lg_sl ([.ref (a 35), .int x1, .int x2, .int x3]) ++ List.replicate (4 - (lg_sl ([.ref (a 35), .int x1, .int x2, .int x3])).length) Slot.unset).toArray = ls at hl ⊢
  have hl : lv_has ls 4 [(0, .ref (a 35)), (1, .int x1), (2, .int x2), (3, .int x3)] := hl
  unfold fX7_isSure at h
  refine lv_aload_n hx hb dX7_isSure_0 rfl (lv_at hl 0 rfl) ?_
  refine lv_iload_n hx hb dX7_isSure_1 rfl (lv_at hl 1 rfl) ?_
  refine lv_iload_n hx hb dX7_isSure_2 rfl (lv_at hl 2 rfl) ?_
  refine lv_iload_n hx hb dX7_isSure_3 rfl (lv_at hl 3 rfl) ?_
  obtain ⟨v1, hc, h⟩ := bd1_use h
  refine cv_i (As := [.int x1, .int x2, .int x3]) (rest := []) ⟨hx, hb, hml, hown, hts⟩ (kX7_heardAs l n dC dI cB cI cJ cZ a adK adV _ ww_latestFault tp_bytes tp_size rd_fault rd_faultPlace rd_kind rd_start rd_at rd_number dr_letterMarks dr_names dr_spelled dr_rows dr_alike dr_near dr_asks dr_letters dr_words dr_askCount sh_lanes sh_sizes sh_cells la_xs la_ys la_heights la_ridgeXs la_ridgeHeights la_way la_blurs la_steps la_places la_ridges la_wayBlur la_wayLength bk_times bk_froms bk_asks bk_words bk_firsts bk_lies bk_held bk_size nu_learned nu_size to_letterMarks to_names to_spelled to_rows to_alike to_near to_asks to_letters to_words to_askCount x1 x2 x3 v1 hc) (cwV 3 hts gX7_isSure_X7_heardAs rfl rfl rfl (by decide +kernel) ⟨Nat.le_of_ble_eq_true rfl, Nat.le_of_ble_eq_true rfl⟩) EB_X hE hK hP hD hS hA 35 (ci := 6) rfl rfl rfl rfl hl.1 rfl (Nat.le_of_ble_eq_true rfl) dX7_isSure_4 ⟨Nat.zero_le _, Nat.zero_le _⟩ (fun H locs hP hD hS => ?_)
  obtain ⟨v2, hc, h⟩ := bd1_use h
  refine cs_i (As := [.int v1]) (rest := []) ⟨hx, hb, hml, hown, hts⟩ (kJ6_bitCount_0f7a4 l n v1 v2 hc) (va_cwS 1 hts gX7_isSure_J6_bitCount_0f7a4 rfl rfl rfl (by decide +kernel) ⟨Nat.le_of_ble_eq_true rfl, Nat.le_of_ble_eq_true rfl⟩) hP hS rfl hl.1 rfl (Nat.le_of_ble_eq_true rfl) dX7_isSure_7 ⟨Nat.zero_le _, Nat.zero_le _⟩ (fun H locs hP hS => ?_)
  refine lv_iconst (v := 1) hx hb dX7_isSure_10 (by decide) ?_
  refine lv_icmp_ne (tgt := 18) hx hb dX7_isSure_11 (by decide) (fun c3 => ?_) (fun c3 => ?_)
  · have h := ie_use c3 h
    refine lv_iconst (v := 0) hx hb dX7_isSure_18 (by decide) ?_
    obtain er := rt1_use h
    exact re_z hx hb hr hlocks hK hP hD hS (Or.inl rfl) er dX7_isSure_19
  · have h := it_use c3 h
    refine lv_iconst (v := 1) hx hb dX7_isSure_14 (by decide) ?_
    refine lv_goto (tgt := 19) hx hb dX7_isSure_15 (by decide) ?_
    obtain er := rt1_use h
    exact re_z hx hb hr hlocks hK hP hD hS (Or.inr rfl) er dX7_isSure_19
set_option maxHeartbeats 4000000 in
set_option maxRecDepth 100000 in
theorem kX8_sure_p16_r {p : Program} {l : Launch} {e : Env} {s : State} {m : MethodId} {args : Array Value} {below : List Frame} {meth : Method} {c : Code} {A : Nat → Prop} (dC : Nat → ClassId) (dI : Nat → Nat → Nat) (cB cI cJ cZ : ClassId) (a : Nat → Nat) (adK adV : Nat → Nat) (C0 : cxt cX8_sure (some .int) 4 RX8 wsX8_sure (dC, dI) (tyz cB cI cJ cZ) (E_X adK adV) A p s m args meth c) (n : Nat) (ww_latestFault : Int32) (tp_bytes : Nat → Int32) (tp_size : Int32) (rd_fault : Int32) (rd_faultPlace : Int32) (rd_kind : Int32) (rd_start : Int32) (rd_at : Int32) (rd_number : Int32) (dr_letterMarks : Nat → Int32) (dr_names : Nat → Int64) (dr_spelled : Nat → Int32) (dr_rows : Nat → Int64) (dr_alike : Nat → Int32) (dr_near : Nat → Int32) (dr_asks : Nat → Int32) (dr_letters : Int32) (dr_words : Int32) (dr_askCount : Int32) (sh_lanes : Nat → Int32) (sh_sizes : Nat → Int32) (sh_cells : Nat → Int32) (la_xs : Nat → Int32) (la_ys : Nat → Int32) (la_heights : Nat → Int32) (la_ridgeXs : Nat → Int32) (la_ridgeHeights : Nat → Int32) (la_way : Nat → Int32) (la_blurs : Nat → Int32) (la_steps : Nat → Int32) (la_places : Int32) (la_ridges : Int32) (la_wayBlur : Int32) (la_wayLength : Int32) (bk_times : Nat → Int32) (bk_froms : Nat → Int32) (bk_asks : Nat → Int32) (bk_words : Nat → Int32) (bk_firsts : Nat → Int32) (bk_lies : Nat → Int32) (bk_held : Nat → Int32) (bk_size : Int32) (nu_learned : Nat → Int32) (nu_size : Int32) (to_letterMarks : Nat → Int32) (to_names : Nat → Int64) (to_spelled : Nat → Int32) (to_rows : Nat → Int64) (to_alike : Nat → Int32) (to_near : Nat → Int32) (to_asks : Nat → Int32) (to_letters : Int32) (to_words : Int32) (to_askCount : Int32) (x1 : Int32) (x2 : Int32) (r0 : Int32)  : ∀ (k : Nat) (x3 : Int32) (H : Heap) (locs : List Loc) (ls : Array Slot), fX8_sure_p16 n to_alike to_asks x1 x2 k x3 = some r0 → va_P (dC, dI) vwCl (wX cB cI cJ cZ a (a 35) (a 4) ww_latestFault tp_bytes tp_size rd_fault rd_faultPlace rd_kind rd_start rd_at rd_number dr_letterMarks dr_names dr_spelled dr_rows dr_alike dr_near dr_asks dr_letters dr_words dr_askCount sh_lanes sh_sizes sh_cells la_xs la_ys la_heights la_ridgeXs la_ridgeHeights la_way la_blurs la_steps la_places la_ridges la_wayBlur la_wayLength bk_times bk_froms bk_asks bk_words bk_firsts bk_lies bk_held bk_size nu_learned nu_size to_letterMarks to_names to_spelled to_rows to_alike to_near to_asks to_letters to_words to_askCount) H → va_D A (wX cB cI cJ cZ a (a 35) (a 4) ww_latestFault tp_bytes tp_size rd_fault rd_faultPlace rd_kind rd_start rd_at rd_number dr_letterMarks dr_names dr_spelled dr_rows dr_alike dr_near dr_asks dr_letters dr_words dr_askCount sh_lanes sh_sizes sh_cells la_xs la_ys la_heights la_ridgeXs la_ridgeHeights la_way la_blurs la_steps la_places la_ridges la_wayBlur la_wayLength bk_times bk_froms bk_asks bk_words bk_firsts bk_lies bk_held bk_size nu_learned nu_size to_letterMarks to_names to_spelled to_rows to_alike to_near to_asks to_letters to_words to_askCount) → va_S A s.heap H locs → lv_has ls 4 [(0, .ref (a 0)), (1, .int x1), (2, .int x2), (3, .int x3)] → W p l e { frames := 3, cells := 0, slots := 0, locals := 68 } s m args below meth c H locs 0 0 (MQ below (gI (dC, dI) (tyz cB cI cJ cZ) (wX cB cI cJ cZ a (a 35) (a 4) ww_latestFault tp_bytes tp_size rd_fault rd_faultPlace rd_kind rd_start rd_at rd_number dr_letterMarks dr_names dr_spelled dr_rows dr_alike dr_near dr_asks dr_letters dr_words dr_askCount sh_lanes sh_sizes sh_cells la_xs la_ys la_heights la_ridgeXs la_ridgeHeights la_way la_blurs la_steps la_places la_ridges la_wayBlur la_wayLength bk_times bk_froms bk_asks bk_words bk_firsts bk_lies bk_held bk_size nu_learned nu_size to_letterMarks to_names to_spelled to_rows to_alike to_near to_asks to_letters to_words to_askCount) A r0) args s 0 0 A) (F0 m 16 ls []) := by
  obtain ⟨hx, hb, hr, hml, hown, hts, hlocks, hK, hA, hE⟩ := id C0
  have hw0 := hts (.fieldLink RX8 60 "WhistledWords" "told" "LWhistledWords$Tongue;") (by decide +kernel)
  have hnX8 : ∀ w ∈ u_ws RX8 TX8 8, w ∈ wsX8_sure := fun _ h => List.mem_cons_of_mem _ (List.mem_append_left _ (List.mem_append_right _ h))
  intro k
  induction k with
  | zero =>
    intro x3 H locs ls h
    cases h
  | succ k ih =>
    intro x3 H locs ls h hP hD hS hl
    rw [fX8_sure_p16] at h
    refine lv_iload_n hx hb dX8_sure_16 rfl (lv_at hl 3 rfl) ?_
    refine lv_if_lt (tgt := 41) hx hb dX8_sure_17 (by decide) (fun c1 => ?_) (fun c1 => ?_)
    · have h := it_use c1 h
      refine lv_bipush (v := -4) hx hb dX8_sure_41 (by decide) ?_
      obtain er := rt1_use h
      exact re_i hx hb hr hlocks hK hP hD hS er dX8_sure_43
    · have h := ie_use c1 h
      refine lv_aload_n hx hb dX8_sure_20 rfl (lv_at hl 0 rfl) ?_
      refine gX_ww_told hx hb hts hnX8 hown hK hP hw0 dX8_sure_21 ?_
      refine lv_iload_n hx hb dX8_sure_24 rfl (lv_at hl 1 rfl) ?_
      refine lv_iload_n hx hb dX8_sure_25 rfl (lv_at hl 2 rfl) ?_
      refine lv_iload_n hx hb dX8_sure_26 rfl (lv_at hl 3 rfl) ?_
      obtain ⟨v2, hc, h⟩ := bd1_use h
      refine cv_i (As := [.int x1, .int x2, .int x3]) (rest := []) ⟨hx, hb, hml, hown, hts⟩ (kX7_isSure l n dC dI cB cI cJ cZ a adK adV _ ww_latestFault tp_bytes tp_size rd_fault rd_faultPlace rd_kind rd_start rd_at rd_number dr_letterMarks dr_names dr_spelled dr_rows dr_alike dr_near dr_asks dr_letters dr_words dr_askCount sh_lanes sh_sizes sh_cells la_xs la_ys la_heights la_ridgeXs la_ridgeHeights la_way la_blurs la_steps la_places la_ridges la_wayBlur la_wayLength bk_times bk_froms bk_asks bk_words bk_firsts bk_lies bk_held bk_size nu_learned nu_size to_letterMarks to_names to_spelled to_rows to_alike to_near to_asks to_letters to_words to_askCount x1 x2 x3 v2 hc) (cwV 3 hts gX8_sure_X7_isSure rfl rfl rfl (by decide +kernel) ⟨Nat.le_of_ble_eq_true rfl, Nat.le_of_ble_eq_true rfl⟩) EB_X hE hK hP hD hS hA 35 (ci := 6) rfl rfl rfl rfl hl.1 rfl (Nat.le_of_ble_eq_true rfl) dX8_sure_27 ⟨Nat.zero_le _, Nat.zero_le _⟩ (fun H locs hP hD hS => ?_)
      refine lv_if_eq (tgt := 35) hx hb dX8_sure_30 (by decide) (fun c3 => ?_) (fun c3 => ?_)
      · have h := it_use c3 h
        refine lv_iinc (v := x3 + (-1)) (lv' := [(3, .int (x3 + (-1))), (0, .ref (a 0)), (1, .int x1), (2, .int x2)]) hx hb dX8_sure_35 hl (k := 3) rfl rfl (by decide) rfl (fun ls hl => ?_)
        refine lv_goto (tgt := 16) hx hb dX8_sure_38 (by decide) ?_
        exact ih (x3 + (-1)) _ _ ls h hP hD hS (lv_sub hl [1, 2, 3, 0] rfl)
      · have h := ie_use c3 h
        refine lv_iload_n hx hb dX8_sure_33 rfl (lv_at hl 3 rfl) ?_
        obtain er := rt1_use h
        exact re_i hx hb hr hlocks hK hP hD hS er dX8_sure_34
theorem kX8_sure_p16 {p : Program} {l : Launch} {e : Env} {s : State} {m : MethodId} {args : Array Value} {below : List Frame} {meth : Method} {c : Code} {A : Nat → Prop} (dC : Nat → ClassId) (dI : Nat → Nat → Nat) (cB cI cJ cZ : ClassId) (a : Nat → Nat) (adK adV : Nat → Nat) (C0 : cxt cX8_sure (some .int) 4 RX8 wsX8_sure (dC, dI) (tyz cB cI cJ cZ) (E_X adK adV) A p s m args meth c) (n : Nat) (ww_latestFault : Int32) (tp_bytes : Nat → Int32) (tp_size : Int32) (rd_fault : Int32) (rd_faultPlace : Int32) (rd_kind : Int32) (rd_start : Int32) (rd_at : Int32) (rd_number : Int32) (dr_letterMarks : Nat → Int32) (dr_names : Nat → Int64) (dr_spelled : Nat → Int32) (dr_rows : Nat → Int64) (dr_alike : Nat → Int32) (dr_near : Nat → Int32) (dr_asks : Nat → Int32) (dr_letters : Int32) (dr_words : Int32) (dr_askCount : Int32) (sh_lanes : Nat → Int32) (sh_sizes : Nat → Int32) (sh_cells : Nat → Int32) (la_xs : Nat → Int32) (la_ys : Nat → Int32) (la_heights : Nat → Int32) (la_ridgeXs : Nat → Int32) (la_ridgeHeights : Nat → Int32) (la_way : Nat → Int32) (la_blurs : Nat → Int32) (la_steps : Nat → Int32) (la_places : Int32) (la_ridges : Int32) (la_wayBlur : Int32) (la_wayLength : Int32) (bk_times : Nat → Int32) (bk_froms : Nat → Int32) (bk_asks : Nat → Int32) (bk_words : Nat → Int32) (bk_firsts : Nat → Int32) (bk_lies : Nat → Int32) (bk_held : Nat → Int32) (bk_size : Int32) (nu_learned : Nat → Int32) (nu_size : Int32) (to_letterMarks : Nat → Int32) (to_names : Nat → Int64) (to_spelled : Nat → Int32) (to_rows : Nat → Int64) (to_alike : Nat → Int32) (to_near : Nat → Int32) (to_asks : Nat → Int32) (to_letters : Int32) (to_words : Int32) (to_askCount : Int32)  (x1 : Int32) (x2 : Int32) (x3 : Int32) (r0 : Int32)  (k : Nat) (H : Heap) (locs : List Loc) (ls : Array Slot) : fX8_sure_p16 n to_alike to_asks x1 x2 k x3 = some r0 → va_P (dC, dI) vwCl (wX cB cI cJ cZ a (a 35) (a 4) ww_latestFault tp_bytes tp_size rd_fault rd_faultPlace rd_kind rd_start rd_at rd_number dr_letterMarks dr_names dr_spelled dr_rows dr_alike dr_near dr_asks dr_letters dr_words dr_askCount sh_lanes sh_sizes sh_cells la_xs la_ys la_heights la_ridgeXs la_ridgeHeights la_way la_blurs la_steps la_places la_ridges la_wayBlur la_wayLength bk_times bk_froms bk_asks bk_words bk_firsts bk_lies bk_held bk_size nu_learned nu_size to_letterMarks to_names to_spelled to_rows to_alike to_near to_asks to_letters to_words to_askCount) H → va_D A (wX cB cI cJ cZ a (a 35) (a 4) ww_latestFault tp_bytes tp_size rd_fault rd_faultPlace rd_kind rd_start rd_at rd_number dr_letterMarks dr_names dr_spelled dr_rows dr_alike dr_near dr_asks dr_letters dr_words dr_askCount sh_lanes sh_sizes sh_cells la_xs la_ys la_heights la_ridgeXs la_ridgeHeights la_way la_blurs la_steps la_places la_ridges la_wayBlur la_wayLength bk_times bk_froms bk_asks bk_words bk_firsts bk_lies bk_held bk_size nu_learned nu_size to_letterMarks to_names to_spelled to_rows to_alike to_near to_asks to_letters to_words to_askCount) → va_S A s.heap H locs → lv_has ls 4 [(0, .ref (a 0)), (1, .int x1), (2, .int x2), (3, .int x3)] → W p l e { frames := 3, cells := 0, slots := 0, locals := 68 } s m args below meth c H locs 0 0 (MQ below (gI (dC, dI) (tyz cB cI cJ cZ) (wX cB cI cJ cZ a (a 35) (a 4) ww_latestFault tp_bytes tp_size rd_fault rd_faultPlace rd_kind rd_start rd_at rd_number dr_letterMarks dr_names dr_spelled dr_rows dr_alike dr_near dr_asks dr_letters dr_words dr_askCount sh_lanes sh_sizes sh_cells la_xs la_ys la_heights la_ridgeXs la_ridgeHeights la_way la_blurs la_steps la_places la_ridges la_wayBlur la_wayLength bk_times bk_froms bk_asks bk_words bk_firsts bk_lies bk_held bk_size nu_learned nu_size to_letterMarks to_names to_spelled to_rows to_alike to_near to_asks to_letters to_words to_askCount) A r0) args s 0 0 A) (F0 m 16 ls []) :=
  kX8_sure_p16_r dC dI cB cI cJ cZ a adK adV C0 n ww_latestFault tp_bytes tp_size rd_fault rd_faultPlace rd_kind rd_start rd_at rd_number dr_letterMarks dr_names dr_spelled dr_rows dr_alike dr_near dr_asks dr_letters dr_words dr_askCount sh_lanes sh_sizes sh_cells la_xs la_ys la_heights la_ridgeXs la_ridgeHeights la_way la_blurs la_steps la_places la_ridges la_wayBlur la_wayLength bk_times bk_froms bk_asks bk_words bk_firsts bk_lies bk_held bk_size nu_learned nu_size to_letterMarks to_names to_spelled to_rows to_alike to_near to_asks to_letters to_words to_askCount x1 x2 r0  k x3 H locs ls
set_option maxHeartbeats 4000000 in
set_option maxRecDepth 100000 in
theorem kX8_sure (l : Launch) (n : Nat) (dC : Nat → ClassId) (dI : Nat → Nat → Nat) (cB cI cJ cZ : ClassId) (a : Nat → Nat) (adK adV : Nat → Nat) (sz : Nat) (ww_latestFault : Int32) (tp_bytes : Nat → Int32) (tp_size : Int32) (rd_fault : Int32) (rd_faultPlace : Int32) (rd_kind : Int32) (rd_start : Int32) (rd_at : Int32) (rd_number : Int32) (dr_letterMarks : Nat → Int32) (dr_names : Nat → Int64) (dr_spelled : Nat → Int32) (dr_rows : Nat → Int64) (dr_alike : Nat → Int32) (dr_near : Nat → Int32) (dr_asks : Nat → Int32) (dr_letters : Int32) (dr_words : Int32) (dr_askCount : Int32) (sh_lanes : Nat → Int32) (sh_sizes : Nat → Int32) (sh_cells : Nat → Int32) (la_xs : Nat → Int32) (la_ys : Nat → Int32) (la_heights : Nat → Int32) (la_ridgeXs : Nat → Int32) (la_ridgeHeights : Nat → Int32) (la_way : Nat → Int32) (la_blurs : Nat → Int32) (la_steps : Nat → Int32) (la_places : Int32) (la_ridges : Int32) (la_wayBlur : Int32) (la_wayLength : Int32) (bk_times : Nat → Int32) (bk_froms : Nat → Int32) (bk_asks : Nat → Int32) (bk_words : Nat → Int32) (bk_firsts : Nat → Int32) (bk_lies : Nat → Int32) (bk_held : Nat → Int32) (bk_size : Int32) (nu_learned : Nat → Int32) (nu_size : Int32) (to_letterMarks : Nat → Int32) (to_names : Nat → Int64) (to_spelled : Nat → Int32) (to_rows : Nat → Int64) (to_alike : Nat → Int32) (to_near : Nat → Int32) (to_asks : Nat → Int32) (to_letters : Int32) (to_words : Int32) (to_askCount : Int32) (x1 : Int32) (x2 : Int32) (r0 : Int32) (h : fX8_sure n to_alike to_asks to_words to_askCount x1 x2 = some r0) : Met l yX8_sure wsX8_sure ({ frames := 3, cells := 0, slots := 0, locals := 68 }) (gP (dC, dI) (tyz cB cI cJ cZ) (E_X adK adV) (wX cB cI cJ cZ a (a 35) (a 4) ww_latestFault tp_bytes tp_size rd_fault rd_faultPlace rd_kind rd_start rd_at rd_number dr_letterMarks dr_names dr_spelled dr_rows dr_alike dr_near dr_asks dr_letters dr_words dr_askCount sh_lanes sh_sizes sh_cells la_xs la_ys la_heights la_ridgeXs la_ridgeHeights la_way la_blurs la_steps la_places la_ridges la_wayBlur la_wayLength bk_times bk_froms bk_asks bk_words bk_firsts bk_lies bk_held bk_size nu_learned nu_size to_letterMarks to_names to_spelled to_rows to_alike to_near to_asks to_letters to_words to_askCount) sz [.ref (a 0), .int x1, .int x2]) (gI (dC, dI) (tyz cB cI cJ cZ) (wX cB cI cJ cZ a (a 35) (a 4) ww_latestFault tp_bytes tp_size rd_fault rd_faultPlace rd_kind rd_start rd_at rd_number dr_letterMarks dr_names dr_spelled dr_rows dr_alike dr_near dr_asks dr_letters dr_words dr_askCount sh_lanes sh_sizes sh_cells la_xs la_ys la_heights la_ridgeXs la_ridgeHeights la_way la_blurs la_steps la_places la_ridges la_wayBlur la_wayLength bk_times bk_froms bk_asks bk_words bk_firsts bk_lies bk_held bk_size nu_learned nu_size to_letterMarks to_names to_spelled to_rows to_alike to_near to_asks to_letters to_words to_askCount) (va_A (wX cB cI cJ cZ a (a 35) (a 4) ww_latestFault tp_bytes tp_size rd_fault rd_faultPlace rd_kind rd_start rd_at rd_number dr_letterMarks dr_names dr_spelled dr_rows dr_alike dr_near dr_asks dr_letters dr_words dr_askCount sh_lanes sh_sizes sh_cells la_xs la_ys la_heights la_ridgeXs la_ridgeHeights la_way la_blurs la_steps la_places la_ridges la_wayBlur la_wayLength bk_times bk_froms bk_asks bk_words bk_firsts bk_lies bk_held bk_size nu_learned nu_size to_letterMarks to_names to_spelled to_rows to_alike to_near to_asks to_letters to_words to_askCount) sz) r0) 0 0 (va_A (wX cB cI cJ cZ a (a 35) (a 4) ww_latestFault tp_bytes tp_size rd_fault rd_faultPlace rd_kind rd_start rd_at rd_number dr_letterMarks dr_names dr_spelled dr_rows dr_alike dr_near dr_asks dr_letters dr_words dr_askCount sh_lanes sh_sizes sh_cells la_xs la_ys la_heights la_ridgeXs la_ridgeHeights la_way la_blurs la_steps la_places la_ridges la_wayBlur la_wayLength bk_times bk_froms bk_asks bk_words bk_firsts bk_lies bk_held bk_size nu_learned nu_size to_letterMarks to_names to_spelled to_rows to_alike to_near to_asks to_letters to_words to_askCount) sz) := by
  refine Met.ofW (cc := cX8_sure) (maxL := 4) (ret := (some .int)) (by decide) rfl ?_
  intro p e s m args below meth c s₁ B hml hv
  obtain ⟨rfl, hsz, hP, hK, hD0, hE⟩ := hv
  have hx := B.exec
  have hb := B.bytes
  have hr := B.returns
  have hts := atoms_spec (ws := wsX8_sure) B.pre
  have hown : s.vm.findClass RX8 = some m.cls := findClass_of_methodNamed B.named
  have hlocks := B.notSynchronized
  subst hsz
  have hD := hD0.self (sz := s.heap.size)
  have hA : ∀ q : Nat, s.heap.size ≤ q → va_A (wX cB cI cJ cZ a (a 35) (a 4) ww_latestFault tp_bytes tp_size rd_fault rd_faultPlace rd_kind rd_start rd_at rd_number dr_letterMarks dr_names dr_spelled dr_rows dr_alike dr_near dr_asks dr_letters dr_words dr_askCount sh_lanes sh_sizes sh_cells la_xs la_ys la_heights la_ridgeXs la_ridgeHeights la_way la_blurs la_steps la_places la_ridges la_wayBlur la_wayLength bk_times bk_froms bk_asks bk_words bk_firsts bk_lies bk_held bk_size nu_learned nu_size to_letterMarks to_names to_spelled to_rows to_alike to_near to_asks to_letters to_words to_askCount) s.heap.size q := fun q h => Or.inr h
  generalize va_A (wX cB cI cJ cZ a (a 35) (a 4) ww_latestFault tp_bytes tp_size rd_fault rd_faultPlace rd_kind rd_start rd_at rd_number dr_letterMarks dr_names dr_spelled dr_rows dr_alike dr_near dr_asks dr_letters dr_words dr_askCount sh_lanes sh_sizes sh_cells la_xs la_ys la_heights la_ridgeXs la_ridgeHeights la_way la_blurs la_steps la_places la_ridges la_wayBlur la_wayLength bk_times bk_froms bk_asks bk_words bk_firsts bk_lies bk_held bk_size nu_learned nu_size to_letterMarks to_names to_spelled to_rows to_alike to_near to_asks to_letters to_words to_askCount) s.heap.size = A at hD hA hE ⊢
  have hS : va_S A s.heap s.heap [] := va_S.rf
  have C0 : cxt cX8_sure (some .int) 4 RX8 wsX8_sure (dC, dI) (tyz cB cI cJ cZ) (E_X adK adV) A p s m ([.ref (a 0), .int x1, .int x2] : List Value).toArray meth c := ⟨hx, hb, hr, hml, hown, hts, hlocks, hK, hA, hE⟩
  have hl := lv_entry ([.ref (a 0), .int x1, .int x2]) (n := 4) (Nat.le_of_ble_eq_true rfl)
  rw [lg_entry_eq]
  generalize (lg_sl ([.ref (a 0), .int x1, .int x2]) ++ List.replicate (4 - (lg_sl ([.ref (a 0), .int x1, .int x2])).length) Slot.unset).toArray = ls at hl ⊢
  have hl : lv_has ls 4 [(0, .ref (a 0)), (1, .int x1), (2, .int x2)] := hl
  have hw0 := hts (.fieldLink RX8 60 "WhistledWords" "told" "LWhistledWords$Tongue;") (by decide +kernel)
  have hnX8 : ∀ w ∈ u_ws RX8 TX8 8, w ∈ wsX8_sure := fun _ h => List.mem_cons_of_mem _ (List.mem_append_left _ (List.mem_append_right _ h))
  unfold fX8_sure at h
  refine lv_aload_n hx hb dX8_sure_0 rfl (lv_at hl 0 rfl) ?_
  refine gX_ww_told hx hb hts hnX8 hown hK hP hw0 dX8_sure_1 ?_
  refine lv_iload_n hx hb dX8_sure_4 rfl (lv_at hl 1 rfl) ?_
  refine lv_iload_n hx hb dX8_sure_5 rfl (lv_at hl 2 rfl) ?_
  obtain ⟨v1, hc, h⟩ := bd1_use h
  refine cv_i (As := [.int x1, .int x2]) (rest := []) ⟨hx, hb, hml, hown, hts⟩ (kX7_fits l n dC dI cB cI cJ cZ a adK adV _ ww_latestFault tp_bytes tp_size rd_fault rd_faultPlace rd_kind rd_start rd_at rd_number dr_letterMarks dr_names dr_spelled dr_rows dr_alike dr_near dr_asks dr_letters dr_words dr_askCount sh_lanes sh_sizes sh_cells la_xs la_ys la_heights la_ridgeXs la_ridgeHeights la_way la_blurs la_steps la_places la_ridges la_wayBlur la_wayLength bk_times bk_froms bk_asks bk_words bk_firsts bk_lies bk_held bk_size nu_learned nu_size to_letterMarks to_names to_spelled to_rows to_alike to_near to_asks to_letters to_words to_askCount x1 x2 v1 hc) (cwV 2 hts gX8_sure_X7_fits rfl rfl rfl (by decide +kernel) ⟨Nat.le_of_ble_eq_true rfl, Nat.le_of_ble_eq_true rfl⟩) EB_X hE hK hP hD hS hA 35 (ci := 6) rfl rfl rfl rfl hl.1 rfl (Nat.le_of_ble_eq_true rfl) dX8_sure_6 ⟨Nat.zero_le _, Nat.zero_le _⟩ (fun H locs hP hD hS => ?_)
  refine lv_if_ne (tgt := 14) hx hb dX8_sure_9 (by decide) (fun c2 => ?_) (fun c2 => ?_)
  · have h := ie_use c2 h
    refine lv_iconst (v := 5) hx hb dX8_sure_14 (by decide) ?_
    refine lv_istore_n (lv' := [(3, .int (5 : Int32)), (0, .ref (a 0)), (1, .int x1), (2, .int x2)]) hx hb dX8_sure_15 rfl hl (by decide) rfl (fun ls hl => ?_)
    exact kX8_sure_p16 dC dI cB cI cJ cZ a adK adV C0 n ww_latestFault tp_bytes tp_size rd_fault rd_faultPlace rd_kind rd_start rd_at rd_number dr_letterMarks dr_names dr_spelled dr_rows dr_alike dr_near dr_asks dr_letters dr_words dr_askCount sh_lanes sh_sizes sh_cells la_xs la_ys la_heights la_ridgeXs la_ridgeHeights la_way la_blurs la_steps la_places la_ridges la_wayBlur la_wayLength bk_times bk_froms bk_asks bk_words bk_firsts bk_lies bk_held bk_size nu_learned nu_size to_letterMarks to_names to_spelled to_rows to_alike to_near to_asks to_letters to_words to_askCount x1 x2 (5 : Int32) r0  n _ _ ls h hP hD hS (lv_sub hl [1, 2, 3, 0] rfl)
  · have h := it_use c2 h
    refine lv_iconst (v := -1) hx hb dX8_sure_12 (by decide) ?_
    obtain er := rt1_use h
    exact re_i hx hb hr hlocks hK hP hD hS er dX8_sure_13
set_option maxHeartbeats 4000000 in
set_option maxRecDepth 100000 in
theorem kX8_isMeasure (l : Launch) (n : Nat) (x0 : Int32) (r0 : Int32) (h : fX8_isMeasure n  x0 = some r0) : Met l yX8_isMeasure wsX8_isMeasure ({ frames := 0, cells := 0, slots := 0, locals := 0 }) (pP [.int x0]) (pI r0) 0 0 no_A := by
  refine Met.ofW (cc := cX8_isMeasure) (maxL := 1) (ret := (some .boolean)) (by decide) rfl ?_
  intro p e s m args below meth c s₁ B hml hv
  obtain ⟨rfl, -⟩ := hv
  have hx := B.exec
  have hb := B.bytes
  have hr := B.returns
  have hts := atoms_spec (ws := wsX8_isMeasure) B.pre
  have hown : s.vm.findClass RX8 = some m.cls := findClass_of_methodNamed B.named
  have hlocks := B.notSynchronized
  have hS : va_S no_A s.heap s.heap [] := va_S.rf
  have C0 : cxp cX8_isMeasure (some .boolean) 1 RX8 wsX8_isMeasure p s m ([.int x0] : List Value).toArray meth c := ⟨hx, hb, hr, hml, hown, hts, hlocks⟩
  have hl := lv_entry ([.int x0]) (n := 1) (Nat.le_of_ble_eq_true rfl)
  rw [lg_entry_eq]
  generalize (lg_sl ([.int x0]) ++ List.replicate (1 - (lg_sl ([.int x0])).length) Slot.unset).toArray = ls at hl ⊢
  have hl : lv_has ls 1 [(0, .int x0)] := hl
  unfold fX8_isMeasure at h
  refine lv_iload_n hx hb dX8_isMeasure_0 rfl (lv_at hl 0 rfl) ?_
  refine lv_if_lt (tgt := 14) hx hb dX8_isMeasure_1 (by decide) (fun c1 => ?_) (fun c1 => ?_)
  · have h := it_use c1 h
    refine lv_iconst (v := 0) hx hb dX8_isMeasure_14 (by decide) ?_
    obtain er := rt1_use h
    exact rp_z hx hb hr hlocks hS (Or.inl rfl) er dX8_isMeasure_15
  · have h := ie_use c1 h
    refine lv_iload_n hx hb dX8_isMeasure_4 rfl (lv_at hl 0 rfl) ?_
    refine lv_bipush (v := 100) hx hb dX8_isMeasure_5 (by decide) ?_
    refine lv_icmp_ge (tgt := 14) hx hb dX8_isMeasure_7 (by decide) (fun c2 => ?_) (fun c2 => ?_)
    · have h := it_use c2 h
      refine lv_iconst (v := 0) hx hb dX8_isMeasure_14 (by decide) ?_
      obtain er := rt1_use h
      exact rp_z hx hb hr hlocks hS (Or.inl rfl) er dX8_isMeasure_15
    · have h := ie_use c2 h
      refine lv_iconst (v := 1) hx hb dX8_isMeasure_10 (by decide) ?_
      refine lv_goto (tgt := 15) hx hb dX8_isMeasure_11 (by decide) ?_
      obtain er := rt1_use h
      exact rp_z hx hb hr hlocks hS (Or.inr rfl) er dX8_isMeasure_15
set_option maxHeartbeats 4000000 in
set_option maxRecDepth 100000 in
theorem kX1_addPlace (l : Launch) (n : Nat) (dC : Nat → ClassId) (dI : Nat → Nat → Nat) (cB cI cJ cZ : ClassId) (a : Nat → Nat) (adK adV : Nat → Nat) (sz : Nat) (ww_latestFault : Int32) (tp_bytes : Nat → Int32) (tp_size : Int32) (rd_fault : Int32) (rd_faultPlace : Int32) (rd_kind : Int32) (rd_start : Int32) (rd_at : Int32) (rd_number : Int32) (dr_letterMarks : Nat → Int32) (dr_names : Nat → Int64) (dr_spelled : Nat → Int32) (dr_rows : Nat → Int64) (dr_alike : Nat → Int32) (dr_near : Nat → Int32) (dr_asks : Nat → Int32) (dr_letters : Int32) (dr_words : Int32) (dr_askCount : Int32) (sh_lanes : Nat → Int32) (sh_sizes : Nat → Int32) (sh_cells : Nat → Int32) (la_xs : Nat → Int32) (la_ys : Nat → Int32) (la_heights : Nat → Int32) (la_ridgeXs : Nat → Int32) (la_ridgeHeights : Nat → Int32) (la_way : Nat → Int32) (la_blurs : Nat → Int32) (la_steps : Nat → Int32) (la_places : Int32) (la_ridges : Int32) (la_wayBlur : Int32) (la_wayLength : Int32) (bk_times : Nat → Int32) (bk_froms : Nat → Int32) (bk_asks : Nat → Int32) (bk_words : Nat → Int32) (bk_firsts : Nat → Int32) (bk_lies : Nat → Int32) (bk_held : Nat → Int32) (bk_size : Int32) (nu_learned : Nat → Int32) (nu_size : Int32) (to_letterMarks : Nat → Int32) (to_names : Nat → Int64) (to_spelled : Nat → Int32) (to_rows : Nat → Int64) (to_alike : Nat → Int32) (to_near : Nat → Int32) (to_asks : Nat → Int32) (to_letters : Int32) (to_words : Int32) (to_askCount : Int32) (x1 : Int32) (x2 : Int32) (x3 : Int32) (r0 : Int32) (z_la_xs : Nat → Int32) (z_la_ys : Nat → Int32) (z_la_heights : Nat → Int32) (z_la_places : Int32) (h : fX1_addPlace n la_xs la_ys la_heights la_places x1 x2 x3 = some (r0, z_la_xs, z_la_ys, z_la_heights, z_la_places)) : Met l yX1_addPlace wsX1_addPlace ({ frames := 0, cells := 0, slots := 0, locals := 0 }) (gP (dC, dI) (tyz cB cI cJ cZ) (E_X adK adV) (wX cB cI cJ cZ a (a 35) (a 4) ww_latestFault tp_bytes tp_size rd_fault rd_faultPlace rd_kind rd_start rd_at rd_number dr_letterMarks dr_names dr_spelled dr_rows dr_alike dr_near dr_asks dr_letters dr_words dr_askCount sh_lanes sh_sizes sh_cells la_xs la_ys la_heights la_ridgeXs la_ridgeHeights la_way la_blurs la_steps la_places la_ridges la_wayBlur la_wayLength bk_times bk_froms bk_asks bk_words bk_firsts bk_lies bk_held bk_size nu_learned nu_size to_letterMarks to_names to_spelled to_rows to_alike to_near to_asks to_letters to_words to_askCount) sz [.ref (a 16), .int x1, .int x2, .int x3]) (gI (dC, dI) (tyz cB cI cJ cZ) (wX cB cI cJ cZ a (a 35) (a 4) ww_latestFault tp_bytes tp_size rd_fault rd_faultPlace rd_kind rd_start rd_at rd_number dr_letterMarks dr_names dr_spelled dr_rows dr_alike dr_near dr_asks dr_letters dr_words dr_askCount sh_lanes sh_sizes sh_cells z_la_xs z_la_ys z_la_heights la_ridgeXs la_ridgeHeights la_way la_blurs la_steps z_la_places la_ridges la_wayBlur la_wayLength bk_times bk_froms bk_asks bk_words bk_firsts bk_lies bk_held bk_size nu_learned nu_size to_letterMarks to_names to_spelled to_rows to_alike to_near to_asks to_letters to_words to_askCount) (va_A (wX cB cI cJ cZ a (a 35) (a 4) ww_latestFault tp_bytes tp_size rd_fault rd_faultPlace rd_kind rd_start rd_at rd_number dr_letterMarks dr_names dr_spelled dr_rows dr_alike dr_near dr_asks dr_letters dr_words dr_askCount sh_lanes sh_sizes sh_cells la_xs la_ys la_heights la_ridgeXs la_ridgeHeights la_way la_blurs la_steps la_places la_ridges la_wayBlur la_wayLength bk_times bk_froms bk_asks bk_words bk_firsts bk_lies bk_held bk_size nu_learned nu_size to_letterMarks to_names to_spelled to_rows to_alike to_near to_asks to_letters to_words to_askCount) sz) r0) 0 0 (va_A (wX cB cI cJ cZ a (a 35) (a 4) ww_latestFault tp_bytes tp_size rd_fault rd_faultPlace rd_kind rd_start rd_at rd_number dr_letterMarks dr_names dr_spelled dr_rows dr_alike dr_near dr_asks dr_letters dr_words dr_askCount sh_lanes sh_sizes sh_cells la_xs la_ys la_heights la_ridgeXs la_ridgeHeights la_way la_blurs la_steps la_places la_ridges la_wayBlur la_wayLength bk_times bk_froms bk_asks bk_words bk_firsts bk_lies bk_held bk_size nu_learned nu_size to_letterMarks to_names to_spelled to_rows to_alike to_near to_asks to_letters to_words to_askCount) sz) := by
  refine Met.ofW (cc := cX1_addPlace) (maxL := 4) (ret := (some .boolean)) (by decide) rfl ?_
  intro p e s m args below meth c s₁ B hml hv
  obtain ⟨rfl, hsz, hP, hK, hD0, hE⟩ := hv
  have hx := B.exec
  have hb := B.bytes
  have hr := B.returns
  have hts := atoms_spec (ws := wsX1_addPlace) B.pre
  have hown : s.vm.findClass RX1 = some m.cls := findClass_of_methodNamed B.named
  have hlocks := B.notSynchronized
  subst hsz
  have hD := hD0.self (sz := s.heap.size)
  have hA : ∀ q : Nat, s.heap.size ≤ q → va_A (wX cB cI cJ cZ a (a 35) (a 4) ww_latestFault tp_bytes tp_size rd_fault rd_faultPlace rd_kind rd_start rd_at rd_number dr_letterMarks dr_names dr_spelled dr_rows dr_alike dr_near dr_asks dr_letters dr_words dr_askCount sh_lanes sh_sizes sh_cells la_xs la_ys la_heights la_ridgeXs la_ridgeHeights la_way la_blurs la_steps la_places la_ridges la_wayBlur la_wayLength bk_times bk_froms bk_asks bk_words bk_firsts bk_lies bk_held bk_size nu_learned nu_size to_letterMarks to_names to_spelled to_rows to_alike to_near to_asks to_letters to_words to_askCount) s.heap.size q := fun q h => Or.inr h
  generalize va_A (wX cB cI cJ cZ a (a 35) (a 4) ww_latestFault tp_bytes tp_size rd_fault rd_faultPlace rd_kind rd_start rd_at rd_number dr_letterMarks dr_names dr_spelled dr_rows dr_alike dr_near dr_asks dr_letters dr_words dr_askCount sh_lanes sh_sizes sh_cells la_xs la_ys la_heights la_ridgeXs la_ridgeHeights la_way la_blurs la_steps la_places la_ridges la_wayBlur la_wayLength bk_times bk_froms bk_asks bk_words bk_firsts bk_lies bk_held bk_size nu_learned nu_size to_letterMarks to_names to_spelled to_rows to_alike to_near to_asks to_letters to_words to_askCount) s.heap.size = A at hD hA hE ⊢
  have hS : va_S A s.heap s.heap [] := va_S.rf
  have C0 : cxt cX1_addPlace (some .boolean) 4 RX1 wsX1_addPlace (dC, dI) (tyz cB cI cJ cZ) (E_X adK adV) A p s m ([.ref (a 16), .int x1, .int x2, .int x3] : List Value).toArray meth c := ⟨hx, hb, hr, hml, hown, hts, hlocks, hK, hA, hE⟩
  have hl := lv_entry ([.ref (a 16), .int x1, .int x2, .int x3]) (n := 4) (Nat.le_of_ble_eq_true rfl)
  rw [lg_entry_eq]
  generalize (lg_sl ([.ref (a 16), .int x1, .int x2, .int x3]) ++ List.replicate (4 - (lg_sl ([.ref (a 16), .int x1, .int x2, .int x3])).length) Slot.unset).toArray = ls at hl ⊢
  have hl : lv_has ls 4 [(0, .ref (a 16)), (1, .int x1), (2, .int x2), (3, .int x3)] := hl
  have hw0 := hts (.fieldLink RX1 40 "WhistledWords$Land" "places" "I") (by decide +kernel)
  have hw1 := hts (.fieldLink RX1 15 "WhistledWords$Land" "xs" "[I") (by decide +kernel)
  have hw2 := hts (.fieldLink RX1 19 "WhistledWords$Land" "ys" "[I") (by decide +kernel)
  have hw3 := hts (.fieldLink RX1 22 "WhistledWords$Land" "heights" "[I") (by decide +kernel)
  have hnX1 : ∀ w ∈ u_ws RX1 TX1 13, w ∈ wsX1_addPlace := fun _ h => List.mem_cons_of_mem _ (List.mem_append_right _ h)
  unfold fX1_addPlace at h
  refine lv_aload_n hx hb dX1_addPlace_0 rfl (lv_at hl 0 rfl) ?_
  refine gX_land_places hx hb hts hnX1 hown hK hP hw0 dX1_addPlace_1 ?_
  refine lv_bipush (v := 10) hx hb dX1_addPlace_4 (by decide) ?_
  refine lv_icmp_lt (tgt := 11) hx hb dX1_addPlace_6 (by decide) (fun c1 => ?_) (fun c1 => ?_)
  · have h := it_use c1 h
    refine lv_aload_n hx hb dX1_addPlace_11 rfl (lv_at hl 0 rfl) ?_
    refine gX_land_xs hx hb hts hnX1 hown hK hP hw1 dX1_addPlace_12 ?_
    refine lv_aload_n hx hb dX1_addPlace_15 rfl (lv_at hl 0 rfl) ?_
    refine gX_land_places hx hb hts hnX1 hown hK hP hw0 dX1_addPlace_16 ?_
    refine lv_iload_n hx hb dX1_addPlace_19 rfl (lv_at hl 1 rfl) ?_
    obtain ⟨hif2, f2, ef2, h⟩ := aw_use h
    refine sX_land_xs hx hb hK hP hD hS hif2 ef2 dX1_addPlace_20 (fun H locs hP hD hS => ?_)
    refine lv_aload_n hx hb dX1_addPlace_21 rfl (lv_at hl 0 rfl) ?_
    refine gX_land_ys hx hb hts hnX1 hown hK hP hw2 dX1_addPlace_22 ?_
    refine lv_aload_n hx hb dX1_addPlace_25 rfl (lv_at hl 0 rfl) ?_
    refine gX_land_places hx hb hts hnX1 hown hK hP hw0 dX1_addPlace_26 ?_
    refine lv_iload_n hx hb dX1_addPlace_29 rfl (lv_at hl 2 rfl) ?_
    obtain ⟨hif3, f3, ef3, h⟩ := aw_use h
    refine sX_land_ys hx hb hK hP hD hS hif3 ef3 dX1_addPlace_30 (fun H locs hP hD hS => ?_)
    refine lv_aload_n hx hb dX1_addPlace_31 rfl (lv_at hl 0 rfl) ?_
    refine gX_land_heights hx hb hts hnX1 hown hK hP hw3 dX1_addPlace_32 ?_
    refine lv_aload_n hx hb dX1_addPlace_35 rfl (lv_at hl 0 rfl) ?_
    refine gX_land_places hx hb hts hnX1 hown hK hP hw0 dX1_addPlace_36 ?_
    refine lv_iload_n hx hb dX1_addPlace_39 rfl (lv_at hl 3 rfl) ?_
    obtain ⟨hif4, f4, ef4, h⟩ := aw_use h
    refine sX_land_heights hx hb hK hP hD hS hif4 ef4 dX1_addPlace_40 (fun H locs hP hD hS => ?_)
    refine lv_aload_n hx hb dX1_addPlace_41 rfl (lv_at hl 0 rfl) ?_
    refine lv_dup hx hb dX1_addPlace_42 rfl ?_
    refine gX_land_places hx hb hts hnX1 hown hK hP hw0 dX1_addPlace_43 ?_
    refine lv_iconst (v := 1) hx hb dX1_addPlace_46 (by decide) ?_
    refine lv_iadd hx hb dX1_addPlace_47 ?_
    refine lv_topi (fun v5 ev5 => ?_)
    have h := nm_use ev5 h
    refine pX_land_places hx hb hts hnX1 hown hK hP hD hS hw0 dX1_addPlace_48 (fun H locs hP hD hS => ?_)
    refine lv_iconst (v := 1) hx hb dX1_addPlace_51 (by decide) ?_
    obtain ⟨er, ez0, ez1, ez2, ez3⟩ := rt5_use h
    subst ez0
    subst ez1
    subst ez2
    subst ez3
    exact re_z hx hb hr hlocks hK hP hD hS (Or.inr rfl) er dX1_addPlace_52
  · have h := ie_use c1 h
    refine lv_iconst (v := 0) hx hb dX1_addPlace_9 (by decide) ?_
    obtain ⟨er, ez0, ez1, ez2, ez3⟩ := rt5_use h
    subst ez0
    subst ez1
    subst ez2
    subst ez3
    exact re_z hx hb hr hlocks hK hP hD hS (Or.inl rfl) er dX1_addPlace_10
set_option maxHeartbeats 4000000 in
set_option maxRecDepth 100000 in
theorem kX8_place (l : Launch) (n : Nat) (dC : Nat → ClassId) (dI : Nat → Nat → Nat) (cB cI cJ cZ : ClassId) (a : Nat → Nat) (adK adV : Nat → Nat) (sz : Nat) (ww_latestFault : Int32) (tp_bytes : Nat → Int32) (tp_size : Int32) (rd_fault : Int32) (rd_faultPlace : Int32) (rd_kind : Int32) (rd_start : Int32) (rd_at : Int32) (rd_number : Int32) (dr_letterMarks : Nat → Int32) (dr_names : Nat → Int64) (dr_spelled : Nat → Int32) (dr_rows : Nat → Int64) (dr_alike : Nat → Int32) (dr_near : Nat → Int32) (dr_asks : Nat → Int32) (dr_letters : Int32) (dr_words : Int32) (dr_askCount : Int32) (sh_lanes : Nat → Int32) (sh_sizes : Nat → Int32) (sh_cells : Nat → Int32) (la_xs : Nat → Int32) (la_ys : Nat → Int32) (la_heights : Nat → Int32) (la_ridgeXs : Nat → Int32) (la_ridgeHeights : Nat → Int32) (la_way : Nat → Int32) (la_blurs : Nat → Int32) (la_steps : Nat → Int32) (la_places : Int32) (la_ridges : Int32) (la_wayBlur : Int32) (la_wayLength : Int32) (bk_times : Nat → Int32) (bk_froms : Nat → Int32) (bk_asks : Nat → Int32) (bk_words : Nat → Int32) (bk_firsts : Nat → Int32) (bk_lies : Nat → Int32) (bk_held : Nat → Int32) (bk_size : Int32) (nu_learned : Nat → Int32) (nu_size : Int32) (to_letterMarks : Nat → Int32) (to_names : Nat → Int64) (to_spelled : Nat → Int32) (to_rows : Nat → Int64) (to_alike : Nat → Int32) (to_near : Nat → Int32) (to_asks : Nat → Int32) (to_letters : Int32) (to_words : Int32) (to_askCount : Int32) (x1 : Int32) (x2 : Int32) (x3 : Int32) (r0 : Int32) (z_la_xs : Nat → Int32) (z_la_ys : Nat → Int32) (z_la_heights : Nat → Int32) (z_la_places : Int32) (h : fX8_place n la_xs la_ys la_heights la_places x1 x2 x3 = some (r0, z_la_xs, z_la_ys, z_la_heights, z_la_places)) : Met l yX8_place wsX8_place ({ frames := 1, cells := 0, slots := 0, locals := 23 }) (gP (dC, dI) (tyz cB cI cJ cZ) (E_X adK adV) (wX cB cI cJ cZ a (a 35) (a 4) ww_latestFault tp_bytes tp_size rd_fault rd_faultPlace rd_kind rd_start rd_at rd_number dr_letterMarks dr_names dr_spelled dr_rows dr_alike dr_near dr_asks dr_letters dr_words dr_askCount sh_lanes sh_sizes sh_cells la_xs la_ys la_heights la_ridgeXs la_ridgeHeights la_way la_blurs la_steps la_places la_ridges la_wayBlur la_wayLength bk_times bk_froms bk_asks bk_words bk_firsts bk_lies bk_held bk_size nu_learned nu_size to_letterMarks to_names to_spelled to_rows to_alike to_near to_asks to_letters to_words to_askCount) sz [.ref (a 0), .int x1, .int x2, .int x3]) (gI (dC, dI) (tyz cB cI cJ cZ) (wX cB cI cJ cZ a (a 35) (a 4) ww_latestFault tp_bytes tp_size rd_fault rd_faultPlace rd_kind rd_start rd_at rd_number dr_letterMarks dr_names dr_spelled dr_rows dr_alike dr_near dr_asks dr_letters dr_words dr_askCount sh_lanes sh_sizes sh_cells z_la_xs z_la_ys z_la_heights la_ridgeXs la_ridgeHeights la_way la_blurs la_steps z_la_places la_ridges la_wayBlur la_wayLength bk_times bk_froms bk_asks bk_words bk_firsts bk_lies bk_held bk_size nu_learned nu_size to_letterMarks to_names to_spelled to_rows to_alike to_near to_asks to_letters to_words to_askCount) (va_A (wX cB cI cJ cZ a (a 35) (a 4) ww_latestFault tp_bytes tp_size rd_fault rd_faultPlace rd_kind rd_start rd_at rd_number dr_letterMarks dr_names dr_spelled dr_rows dr_alike dr_near dr_asks dr_letters dr_words dr_askCount sh_lanes sh_sizes sh_cells la_xs la_ys la_heights la_ridgeXs la_ridgeHeights la_way la_blurs la_steps la_places la_ridges la_wayBlur la_wayLength bk_times bk_froms bk_asks bk_words bk_firsts bk_lies bk_held bk_size nu_learned nu_size to_letterMarks to_names to_spelled to_rows to_alike to_near to_asks to_letters to_words to_askCount) sz) r0) 0 0 (va_A (wX cB cI cJ cZ a (a 35) (a 4) ww_latestFault tp_bytes tp_size rd_fault rd_faultPlace rd_kind rd_start rd_at rd_number dr_letterMarks dr_names dr_spelled dr_rows dr_alike dr_near dr_asks dr_letters dr_words dr_askCount sh_lanes sh_sizes sh_cells la_xs la_ys la_heights la_ridgeXs la_ridgeHeights la_way la_blurs la_steps la_places la_ridges la_wayBlur la_wayLength bk_times bk_froms bk_asks bk_words bk_firsts bk_lies bk_held bk_size nu_learned nu_size to_letterMarks to_names to_spelled to_rows to_alike to_near to_asks to_letters to_words to_askCount) sz) := by
  refine Met.ofW (cc := cX8_place) (maxL := 4) (ret := (some .int)) (by decide) rfl ?_
  intro p e s m args below meth c s₁ B hml hv
  obtain ⟨rfl, hsz, hP, hK, hD0, hE⟩ := hv
  have hx := B.exec
  have hb := B.bytes
  have hr := B.returns
  have hts := atoms_spec (ws := wsX8_place) B.pre
  have hown : s.vm.findClass RX8 = some m.cls := findClass_of_methodNamed B.named
  have hlocks := B.notSynchronized
  subst hsz
  have hD := hD0.self (sz := s.heap.size)
  have hA : ∀ q : Nat, s.heap.size ≤ q → va_A (wX cB cI cJ cZ a (a 35) (a 4) ww_latestFault tp_bytes tp_size rd_fault rd_faultPlace rd_kind rd_start rd_at rd_number dr_letterMarks dr_names dr_spelled dr_rows dr_alike dr_near dr_asks dr_letters dr_words dr_askCount sh_lanes sh_sizes sh_cells la_xs la_ys la_heights la_ridgeXs la_ridgeHeights la_way la_blurs la_steps la_places la_ridges la_wayBlur la_wayLength bk_times bk_froms bk_asks bk_words bk_firsts bk_lies bk_held bk_size nu_learned nu_size to_letterMarks to_names to_spelled to_rows to_alike to_near to_asks to_letters to_words to_askCount) s.heap.size q := fun q h => Or.inr h
  generalize va_A (wX cB cI cJ cZ a (a 35) (a 4) ww_latestFault tp_bytes tp_size rd_fault rd_faultPlace rd_kind rd_start rd_at rd_number dr_letterMarks dr_names dr_spelled dr_rows dr_alike dr_near dr_asks dr_letters dr_words dr_askCount sh_lanes sh_sizes sh_cells la_xs la_ys la_heights la_ridgeXs la_ridgeHeights la_way la_blurs la_steps la_places la_ridges la_wayBlur la_wayLength bk_times bk_froms bk_asks bk_words bk_firsts bk_lies bk_held bk_size nu_learned nu_size to_letterMarks to_names to_spelled to_rows to_alike to_near to_asks to_letters to_words to_askCount) s.heap.size = A at hD hA hE ⊢
  have hS : va_S A s.heap s.heap [] := va_S.rf
  have C0 : cxt cX8_place (some .int) 4 RX8 wsX8_place (dC, dI) (tyz cB cI cJ cZ) (E_X adK adV) A p s m ([.ref (a 0), .int x1, .int x2, .int x3] : List Value).toArray meth c := ⟨hx, hb, hr, hml, hown, hts, hlocks, hK, hA, hE⟩
  have hl := lv_entry ([.ref (a 0), .int x1, .int x2, .int x3]) (n := 4) (Nat.le_of_ble_eq_true rfl)
  rw [lg_entry_eq]
  generalize (lg_sl ([.ref (a 0), .int x1, .int x2, .int x3]) ++ List.replicate (4 - (lg_sl ([.ref (a 0), .int x1, .int x2, .int x3])).length) Slot.unset).toArray = ls at hl ⊢
  have hl : lv_has ls 4 [(0, .ref (a 0)), (1, .int x1), (2, .int x2), (3, .int x3)] := hl
  have hw0 := hts (.fieldLink RX8 37 "WhistledWords" "land" "LWhistledWords$Land;") (by decide +kernel)
  have hw1 := hts (.fieldLink RX8 202 "WhistledWords$Land" "places" "I") (by decide +kernel)
  have hnX8 : ∀ w ∈ u_ws RX8 TX8 8, w ∈ wsX8_place := fun _ h => List.mem_cons_of_mem _ (List.mem_append_left _ (List.mem_append_right _ h))
  have hnX1 : ∀ w ∈ u_ws RX1 TX1 13, w ∈ wsX8_place := fun _ h => List.mem_cons_of_mem _ (List.mem_append_right _ h)
  unfold fX8_place at h
  refine lv_iload_n hx hb dX8_place_0 rfl (lv_at hl 1 rfl) ?_
  obtain ⟨v1, hc, h⟩ := bd1_use h
  refine cs_i (As := [.int x1]) (rest := []) ⟨hx, hb, hml, hown, hts⟩ (kX8_isMeasure l n x1 v1 hc) (va_cwS 1 hts gX8_place_X8_isMeasure rfl rfl rfl (by decide +kernel) ⟨Nat.le_of_ble_eq_true rfl, Nat.le_of_ble_eq_true rfl⟩) hP hS rfl hl.1 rfl (Nat.le_of_ble_eq_true rfl) dX8_place_1 ⟨Nat.zero_le _, Nat.zero_le _⟩ (fun H locs hP hS => ?_)
  refine lv_if_eq (tgt := 21) hx hb dX8_place_4 (by decide) (fun c2 => ?_) (fun c2 => ?_)
  · have h := it_use c2 h
    refine lv_iconst (v := -1) hx hb dX8_place_21 (by decide) ?_
    obtain ⟨er, ez0, ez1, ez2, ez3⟩ := rt5_use h
    subst ez0
    subst ez1
    subst ez2
    subst ez3
    exact re_i hx hb hr hlocks hK hP hD hS er dX8_place_22
  · have h := ie_use c2 h
    refine lv_iload_n hx hb dX8_place_7 rfl (lv_at hl 2 rfl) ?_
    obtain ⟨v3, hc, h⟩ := bd1_use h
    refine cs_i (As := [.int x2]) (rest := []) ⟨hx, hb, hml, hown, hts⟩ (kX8_isMeasure l n x2 v3 hc) (va_cwS 1 hts gX8_place_X8_isMeasure rfl rfl rfl (by decide +kernel) ⟨Nat.le_of_ble_eq_true rfl, Nat.le_of_ble_eq_true rfl⟩) hP hS rfl hl.1 rfl (Nat.le_of_ble_eq_true rfl) dX8_place_8 ⟨Nat.zero_le _, Nat.zero_le _⟩ (fun H locs hP hS => ?_)
    refine lv_if_eq (tgt := 21) hx hb dX8_place_11 (by decide) (fun c4 => ?_) (fun c4 => ?_)
    · have h := it_use c4 h
      refine lv_iconst (v := -1) hx hb dX8_place_21 (by decide) ?_
      obtain ⟨er, ez0, ez1, ez2, ez3⟩ := rt5_use h
      subst ez0
      subst ez1
      subst ez2
      subst ez3
      exact re_i hx hb hr hlocks hK hP hD hS er dX8_place_22
    · have h := ie_use c4 h
      refine lv_iload_n hx hb dX8_place_14 rfl (lv_at hl 3 rfl) ?_
      obtain ⟨v5, hc, h⟩ := bd1_use h
      refine cs_i (As := [.int x3]) (rest := []) ⟨hx, hb, hml, hown, hts⟩ (kX8_isMeasure l n x3 v5 hc) (va_cwS 1 hts gX8_place_X8_isMeasure rfl rfl rfl (by decide +kernel) ⟨Nat.le_of_ble_eq_true rfl, Nat.le_of_ble_eq_true rfl⟩) hP hS rfl hl.1 rfl (Nat.le_of_ble_eq_true rfl) dX8_place_15 ⟨Nat.zero_le _, Nat.zero_le _⟩ (fun H locs hP hS => ?_)
      refine lv_if_ne (tgt := 23) hx hb dX8_place_18 (by decide) (fun c6 => ?_) (fun c6 => ?_)
      · have h := ie_use c6 h
        refine lv_aload_n hx hb dX8_place_23 rfl (lv_at hl 0 rfl) ?_
        refine gX_ww_land hx hb hts hnX8 hown hK hP hw0 dX8_place_24 ?_
        refine lv_iload_n hx hb dX8_place_27 rfl (lv_at hl 1 rfl) ?_
        refine lv_iload_n hx hb dX8_place_28 rfl (lv_at hl 2 rfl) ?_
        refine lv_iload_n hx hb dX8_place_29 rfl (lv_at hl 3 rfl) ?_
        obtain ⟨v7, f8, f9, f10, v11, hc, h⟩ := bd5_use h
        refine cv_i (As := [.int x1, .int x2, .int x3]) (rest := []) ⟨hx, hb, hml, hown, hts⟩ (kX1_addPlace l n dC dI cB cI cJ cZ a adK adV _ ww_latestFault tp_bytes tp_size rd_fault rd_faultPlace rd_kind rd_start rd_at rd_number dr_letterMarks dr_names dr_spelled dr_rows dr_alike dr_near dr_asks dr_letters dr_words dr_askCount sh_lanes sh_sizes sh_cells la_xs la_ys la_heights la_ridgeXs la_ridgeHeights la_way la_blurs la_steps la_places la_ridges la_wayBlur la_wayLength bk_times bk_froms bk_asks bk_words bk_firsts bk_lies bk_held bk_size nu_learned nu_size to_letterMarks to_names to_spelled to_rows to_alike to_near to_asks to_letters to_words to_askCount x1 x2 x3 v7 f8 f9 f10 v11 hc) (cwV 3 hts gX8_place_X1_addPlace rfl rfl rfl (by decide +kernel) ⟨Nat.le_of_ble_eq_true rfl, Nat.le_of_ble_eq_true rfl⟩) EB_X hE hK hP hD hS hA 16 (ci := 1) rfl rfl rfl rfl hl.1 rfl (Nat.le_of_ble_eq_true rfl) dX8_place_30 ⟨Nat.zero_le _, Nat.zero_le _⟩ (fun H locs hP hD hS => ?_)
        refine lv_if_eq (tgt := 48) hx hb dX8_place_33 (by decide) (fun c12 => ?_) (fun c12 => ?_)
        · have h := it_use c12 h
          refine lv_bipush (v := -3) hx hb dX8_place_48 (by decide) ?_
          obtain ⟨er, ez0, ez1, ez2, ez3⟩ := rt5_use h
          subst ez0
          subst ez1
          subst ez2
          subst ez3
          exact re_i hx hb hr hlocks hK hP hD hS er dX8_place_50
        · have h := ie_use c12 h
          refine lv_aload_n hx hb dX8_place_36 rfl (lv_at hl 0 rfl) ?_
          refine gX_ww_land hx hb hts hnX8 hown hK hP hw0 dX8_place_37 ?_
          refine gX_land_places hx hb hts hnX1 hown hK hP hw1 dX8_place_40 ?_
          refine lv_iconst (v := 1) hx hb dX8_place_43 (by decide) ?_
          refine lv_isub hx hb dX8_place_44 ?_
          refine lv_goto (tgt := 50) hx hb dX8_place_45 (by decide) ?_
          obtain ⟨er, ez0, ez1, ez2, ez3⟩ := rt5_use h
          subst ez0
          subst ez1
          subst ez2
          subst ez3
          exact re_i hx hb hr hlocks hK hP hD hS er dX8_place_50
      · have h := it_use c6 h
        refine lv_iconst (v := -1) hx hb dX8_place_21 (by decide) ?_
        obtain ⟨er, ez0, ez1, ez2, ez3⟩ := rt5_use h
        subst ez0
        subst ez1
        subst ez2
        subst ez3
        exact re_i hx hb hr hlocks hK hP hD hS er dX8_place_22
set_option maxHeartbeats 4000000 in
set_option maxRecDepth 100000 in
theorem kX1_addRidge (l : Launch) (n : Nat) (dC : Nat → ClassId) (dI : Nat → Nat → Nat) (cB cI cJ cZ : ClassId) (a : Nat → Nat) (adK adV : Nat → Nat) (sz : Nat) (ww_latestFault : Int32) (tp_bytes : Nat → Int32) (tp_size : Int32) (rd_fault : Int32) (rd_faultPlace : Int32) (rd_kind : Int32) (rd_start : Int32) (rd_at : Int32) (rd_number : Int32) (dr_letterMarks : Nat → Int32) (dr_names : Nat → Int64) (dr_spelled : Nat → Int32) (dr_rows : Nat → Int64) (dr_alike : Nat → Int32) (dr_near : Nat → Int32) (dr_asks : Nat → Int32) (dr_letters : Int32) (dr_words : Int32) (dr_askCount : Int32) (sh_lanes : Nat → Int32) (sh_sizes : Nat → Int32) (sh_cells : Nat → Int32) (la_xs : Nat → Int32) (la_ys : Nat → Int32) (la_heights : Nat → Int32) (la_ridgeXs : Nat → Int32) (la_ridgeHeights : Nat → Int32) (la_way : Nat → Int32) (la_blurs : Nat → Int32) (la_steps : Nat → Int32) (la_places : Int32) (la_ridges : Int32) (la_wayBlur : Int32) (la_wayLength : Int32) (bk_times : Nat → Int32) (bk_froms : Nat → Int32) (bk_asks : Nat → Int32) (bk_words : Nat → Int32) (bk_firsts : Nat → Int32) (bk_lies : Nat → Int32) (bk_held : Nat → Int32) (bk_size : Int32) (nu_learned : Nat → Int32) (nu_size : Int32) (to_letterMarks : Nat → Int32) (to_names : Nat → Int64) (to_spelled : Nat → Int32) (to_rows : Nat → Int64) (to_alike : Nat → Int32) (to_near : Nat → Int32) (to_asks : Nat → Int32) (to_letters : Int32) (to_words : Int32) (to_askCount : Int32) (x1 : Int32) (x2 : Int32) (r0 : Int32) (z_la_ridgeXs : Nat → Int32) (z_la_ridgeHeights : Nat → Int32) (z_la_ridges : Int32) (h : fX1_addRidge n la_ridgeXs la_ridgeHeights la_ridges x1 x2 = some (r0, z_la_ridgeXs, z_la_ridgeHeights, z_la_ridges)) : Met l yX1_addRidge wsX1_addRidge ({ frames := 0, cells := 0, slots := 0, locals := 0 }) (gP (dC, dI) (tyz cB cI cJ cZ) (E_X adK adV) (wX cB cI cJ cZ a (a 35) (a 4) ww_latestFault tp_bytes tp_size rd_fault rd_faultPlace rd_kind rd_start rd_at rd_number dr_letterMarks dr_names dr_spelled dr_rows dr_alike dr_near dr_asks dr_letters dr_words dr_askCount sh_lanes sh_sizes sh_cells la_xs la_ys la_heights la_ridgeXs la_ridgeHeights la_way la_blurs la_steps la_places la_ridges la_wayBlur la_wayLength bk_times bk_froms bk_asks bk_words bk_firsts bk_lies bk_held bk_size nu_learned nu_size to_letterMarks to_names to_spelled to_rows to_alike to_near to_asks to_letters to_words to_askCount) sz [.ref (a 16), .int x1, .int x2]) (gI (dC, dI) (tyz cB cI cJ cZ) (wX cB cI cJ cZ a (a 35) (a 4) ww_latestFault tp_bytes tp_size rd_fault rd_faultPlace rd_kind rd_start rd_at rd_number dr_letterMarks dr_names dr_spelled dr_rows dr_alike dr_near dr_asks dr_letters dr_words dr_askCount sh_lanes sh_sizes sh_cells la_xs la_ys la_heights z_la_ridgeXs z_la_ridgeHeights la_way la_blurs la_steps la_places z_la_ridges la_wayBlur la_wayLength bk_times bk_froms bk_asks bk_words bk_firsts bk_lies bk_held bk_size nu_learned nu_size to_letterMarks to_names to_spelled to_rows to_alike to_near to_asks to_letters to_words to_askCount) (va_A (wX cB cI cJ cZ a (a 35) (a 4) ww_latestFault tp_bytes tp_size rd_fault rd_faultPlace rd_kind rd_start rd_at rd_number dr_letterMarks dr_names dr_spelled dr_rows dr_alike dr_near dr_asks dr_letters dr_words dr_askCount sh_lanes sh_sizes sh_cells la_xs la_ys la_heights la_ridgeXs la_ridgeHeights la_way la_blurs la_steps la_places la_ridges la_wayBlur la_wayLength bk_times bk_froms bk_asks bk_words bk_firsts bk_lies bk_held bk_size nu_learned nu_size to_letterMarks to_names to_spelled to_rows to_alike to_near to_asks to_letters to_words to_askCount) sz) r0) 0 0 (va_A (wX cB cI cJ cZ a (a 35) (a 4) ww_latestFault tp_bytes tp_size rd_fault rd_faultPlace rd_kind rd_start rd_at rd_number dr_letterMarks dr_names dr_spelled dr_rows dr_alike dr_near dr_asks dr_letters dr_words dr_askCount sh_lanes sh_sizes sh_cells la_xs la_ys la_heights la_ridgeXs la_ridgeHeights la_way la_blurs la_steps la_places la_ridges la_wayBlur la_wayLength bk_times bk_froms bk_asks bk_words bk_firsts bk_lies bk_held bk_size nu_learned nu_size to_letterMarks to_names to_spelled to_rows to_alike to_near to_asks to_letters to_words to_askCount) sz) := by
  refine Met.ofW (cc := cX1_addRidge) (maxL := 3) (ret := (some .boolean)) (by decide) rfl ?_
  intro p e s m args below meth c s₁ B hml hv
  obtain ⟨rfl, hsz, hP, hK, hD0, hE⟩ := hv
  have hx := B.exec
  have hb := B.bytes
  have hr := B.returns
  have hts := atoms_spec (ws := wsX1_addRidge) B.pre
  have hown : s.vm.findClass RX1 = some m.cls := findClass_of_methodNamed B.named
  have hlocks := B.notSynchronized
  subst hsz
  have hD := hD0.self (sz := s.heap.size)
  have hA : ∀ q : Nat, s.heap.size ≤ q → va_A (wX cB cI cJ cZ a (a 35) (a 4) ww_latestFault tp_bytes tp_size rd_fault rd_faultPlace rd_kind rd_start rd_at rd_number dr_letterMarks dr_names dr_spelled dr_rows dr_alike dr_near dr_asks dr_letters dr_words dr_askCount sh_lanes sh_sizes sh_cells la_xs la_ys la_heights la_ridgeXs la_ridgeHeights la_way la_blurs la_steps la_places la_ridges la_wayBlur la_wayLength bk_times bk_froms bk_asks bk_words bk_firsts bk_lies bk_held bk_size nu_learned nu_size to_letterMarks to_names to_spelled to_rows to_alike to_near to_asks to_letters to_words to_askCount) s.heap.size q := fun q h => Or.inr h
  generalize va_A (wX cB cI cJ cZ a (a 35) (a 4) ww_latestFault tp_bytes tp_size rd_fault rd_faultPlace rd_kind rd_start rd_at rd_number dr_letterMarks dr_names dr_spelled dr_rows dr_alike dr_near dr_asks dr_letters dr_words dr_askCount sh_lanes sh_sizes sh_cells la_xs la_ys la_heights la_ridgeXs la_ridgeHeights la_way la_blurs la_steps la_places la_ridges la_wayBlur la_wayLength bk_times bk_froms bk_asks bk_words bk_firsts bk_lies bk_held bk_size nu_learned nu_size to_letterMarks to_names to_spelled to_rows to_alike to_near to_asks to_letters to_words to_askCount) s.heap.size = A at hD hA hE ⊢
  have hS : va_S A s.heap s.heap [] := va_S.rf
  have C0 : cxt cX1_addRidge (some .boolean) 3 RX1 wsX1_addRidge (dC, dI) (tyz cB cI cJ cZ) (E_X adK adV) A p s m ([.ref (a 16), .int x1, .int x2] : List Value).toArray meth c := ⟨hx, hb, hr, hml, hown, hts, hlocks, hK, hA, hE⟩
  have hl := lv_entry ([.ref (a 16), .int x1, .int x2]) (n := 3) (Nat.le_of_ble_eq_true rfl)
  rw [lg_entry_eq]
  generalize (lg_sl ([.ref (a 16), .int x1, .int x2]) ++ List.replicate (3 - (lg_sl ([.ref (a 16), .int x1, .int x2])).length) Slot.unset).toArray = ls at hl ⊢
  have hl : lv_has ls 3 [(0, .ref (a 16)), (1, .int x1), (2, .int x2)] := hl
  have hw0 := hts (.fieldLink RX1 44 "WhistledWords$Land" "ridges" "I") (by decide +kernel)
  have hw1 := hts (.fieldLink RX1 25 "WhistledWords$Land" "ridgeXs" "[I") (by decide +kernel)
  have hw2 := hts (.fieldLink RX1 28 "WhistledWords$Land" "ridgeHeights" "[I") (by decide +kernel)
  have hnX1 : ∀ w ∈ u_ws RX1 TX1 13, w ∈ wsX1_addRidge := fun _ h => List.mem_cons_of_mem _ (List.mem_append_right _ h)
  unfold fX1_addRidge at h
  refine lv_aload_n hx hb dX1_addRidge_0 rfl (lv_at hl 0 rfl) ?_
  refine gX_land_ridges hx hb hts hnX1 hown hK hP hw0 dX1_addRidge_1 ?_
  refine lv_bipush (v := 6) hx hb dX1_addRidge_4 (by decide) ?_
  refine lv_icmp_lt (tgt := 11) hx hb dX1_addRidge_6 (by decide) (fun c1 => ?_) (fun c1 => ?_)
  · have h := it_use c1 h
    refine lv_aload_n hx hb dX1_addRidge_11 rfl (lv_at hl 0 rfl) ?_
    refine gX_land_ridgeXs hx hb hts hnX1 hown hK hP hw1 dX1_addRidge_12 ?_
    refine lv_aload_n hx hb dX1_addRidge_15 rfl (lv_at hl 0 rfl) ?_
    refine gX_land_ridges hx hb hts hnX1 hown hK hP hw0 dX1_addRidge_16 ?_
    refine lv_iload_n hx hb dX1_addRidge_19 rfl (lv_at hl 1 rfl) ?_
    obtain ⟨hif2, f2, ef2, h⟩ := aw_use h
    refine sX_land_ridgeXs hx hb hK hP hD hS hif2 ef2 dX1_addRidge_20 (fun H locs hP hD hS => ?_)
    refine lv_aload_n hx hb dX1_addRidge_21 rfl (lv_at hl 0 rfl) ?_
    refine gX_land_ridgeHeights hx hb hts hnX1 hown hK hP hw2 dX1_addRidge_22 ?_
    refine lv_aload_n hx hb dX1_addRidge_25 rfl (lv_at hl 0 rfl) ?_
    refine gX_land_ridges hx hb hts hnX1 hown hK hP hw0 dX1_addRidge_26 ?_
    refine lv_iload_n hx hb dX1_addRidge_29 rfl (lv_at hl 2 rfl) ?_
    obtain ⟨hif3, f3, ef3, h⟩ := aw_use h
    refine sX_land_ridgeHeights hx hb hK hP hD hS hif3 ef3 dX1_addRidge_30 (fun H locs hP hD hS => ?_)
    refine lv_aload_n hx hb dX1_addRidge_31 rfl (lv_at hl 0 rfl) ?_
    refine lv_dup hx hb dX1_addRidge_32 rfl ?_
    refine gX_land_ridges hx hb hts hnX1 hown hK hP hw0 dX1_addRidge_33 ?_
    refine lv_iconst (v := 1) hx hb dX1_addRidge_36 (by decide) ?_
    refine lv_iadd hx hb dX1_addRidge_37 ?_
    refine lv_topi (fun v4 ev4 => ?_)
    have h := nm_use ev4 h
    refine pX_land_ridges hx hb hts hnX1 hown hK hP hD hS hw0 dX1_addRidge_38 (fun H locs hP hD hS => ?_)
    refine lv_iconst (v := 1) hx hb dX1_addRidge_41 (by decide) ?_
    obtain ⟨er, ez0, ez1, ez2⟩ := rt4_use h
    subst ez0
    subst ez1
    subst ez2
    exact re_z hx hb hr hlocks hK hP hD hS (Or.inr rfl) er dX1_addRidge_42
  · have h := ie_use c1 h
    refine lv_iconst (v := 0) hx hb dX1_addRidge_9 (by decide) ?_
    obtain ⟨er, ez0, ez1, ez2⟩ := rt4_use h
    subst ez0
    subst ez1
    subst ez2
    exact re_z hx hb hr hlocks hK hP hD hS (Or.inl rfl) er dX1_addRidge_10
set_option maxHeartbeats 4000000 in
set_option maxRecDepth 100000 in
theorem kX8_ridge (l : Launch) (n : Nat) (dC : Nat → ClassId) (dI : Nat → Nat → Nat) (cB cI cJ cZ : ClassId) (a : Nat → Nat) (adK adV : Nat → Nat) (sz : Nat) (ww_latestFault : Int32) (tp_bytes : Nat → Int32) (tp_size : Int32) (rd_fault : Int32) (rd_faultPlace : Int32) (rd_kind : Int32) (rd_start : Int32) (rd_at : Int32) (rd_number : Int32) (dr_letterMarks : Nat → Int32) (dr_names : Nat → Int64) (dr_spelled : Nat → Int32) (dr_rows : Nat → Int64) (dr_alike : Nat → Int32) (dr_near : Nat → Int32) (dr_asks : Nat → Int32) (dr_letters : Int32) (dr_words : Int32) (dr_askCount : Int32) (sh_lanes : Nat → Int32) (sh_sizes : Nat → Int32) (sh_cells : Nat → Int32) (la_xs : Nat → Int32) (la_ys : Nat → Int32) (la_heights : Nat → Int32) (la_ridgeXs : Nat → Int32) (la_ridgeHeights : Nat → Int32) (la_way : Nat → Int32) (la_blurs : Nat → Int32) (la_steps : Nat → Int32) (la_places : Int32) (la_ridges : Int32) (la_wayBlur : Int32) (la_wayLength : Int32) (bk_times : Nat → Int32) (bk_froms : Nat → Int32) (bk_asks : Nat → Int32) (bk_words : Nat → Int32) (bk_firsts : Nat → Int32) (bk_lies : Nat → Int32) (bk_held : Nat → Int32) (bk_size : Int32) (nu_learned : Nat → Int32) (nu_size : Int32) (to_letterMarks : Nat → Int32) (to_names : Nat → Int64) (to_spelled : Nat → Int32) (to_rows : Nat → Int64) (to_alike : Nat → Int32) (to_near : Nat → Int32) (to_asks : Nat → Int32) (to_letters : Int32) (to_words : Int32) (to_askCount : Int32) (x1 : Int32) (x2 : Int32) (r0 : Int32) (z_la_ridgeXs : Nat → Int32) (z_la_ridgeHeights : Nat → Int32) (z_la_ridges : Int32) (h : fX8_ridge n la_ridgeXs la_ridgeHeights la_ridges x1 x2 = some (r0, z_la_ridgeXs, z_la_ridgeHeights, z_la_ridges)) : Met l yX8_ridge wsX8_ridge ({ frames := 1, cells := 0, slots := 0, locals := 22 }) (gP (dC, dI) (tyz cB cI cJ cZ) (E_X adK adV) (wX cB cI cJ cZ a (a 35) (a 4) ww_latestFault tp_bytes tp_size rd_fault rd_faultPlace rd_kind rd_start rd_at rd_number dr_letterMarks dr_names dr_spelled dr_rows dr_alike dr_near dr_asks dr_letters dr_words dr_askCount sh_lanes sh_sizes sh_cells la_xs la_ys la_heights la_ridgeXs la_ridgeHeights la_way la_blurs la_steps la_places la_ridges la_wayBlur la_wayLength bk_times bk_froms bk_asks bk_words bk_firsts bk_lies bk_held bk_size nu_learned nu_size to_letterMarks to_names to_spelled to_rows to_alike to_near to_asks to_letters to_words to_askCount) sz [.ref (a 0), .int x1, .int x2]) (gI (dC, dI) (tyz cB cI cJ cZ) (wX cB cI cJ cZ a (a 35) (a 4) ww_latestFault tp_bytes tp_size rd_fault rd_faultPlace rd_kind rd_start rd_at rd_number dr_letterMarks dr_names dr_spelled dr_rows dr_alike dr_near dr_asks dr_letters dr_words dr_askCount sh_lanes sh_sizes sh_cells la_xs la_ys la_heights z_la_ridgeXs z_la_ridgeHeights la_way la_blurs la_steps la_places z_la_ridges la_wayBlur la_wayLength bk_times bk_froms bk_asks bk_words bk_firsts bk_lies bk_held bk_size nu_learned nu_size to_letterMarks to_names to_spelled to_rows to_alike to_near to_asks to_letters to_words to_askCount) (va_A (wX cB cI cJ cZ a (a 35) (a 4) ww_latestFault tp_bytes tp_size rd_fault rd_faultPlace rd_kind rd_start rd_at rd_number dr_letterMarks dr_names dr_spelled dr_rows dr_alike dr_near dr_asks dr_letters dr_words dr_askCount sh_lanes sh_sizes sh_cells la_xs la_ys la_heights la_ridgeXs la_ridgeHeights la_way la_blurs la_steps la_places la_ridges la_wayBlur la_wayLength bk_times bk_froms bk_asks bk_words bk_firsts bk_lies bk_held bk_size nu_learned nu_size to_letterMarks to_names to_spelled to_rows to_alike to_near to_asks to_letters to_words to_askCount) sz) r0) 0 0 (va_A (wX cB cI cJ cZ a (a 35) (a 4) ww_latestFault tp_bytes tp_size rd_fault rd_faultPlace rd_kind rd_start rd_at rd_number dr_letterMarks dr_names dr_spelled dr_rows dr_alike dr_near dr_asks dr_letters dr_words dr_askCount sh_lanes sh_sizes sh_cells la_xs la_ys la_heights la_ridgeXs la_ridgeHeights la_way la_blurs la_steps la_places la_ridges la_wayBlur la_wayLength bk_times bk_froms bk_asks bk_words bk_firsts bk_lies bk_held bk_size nu_learned nu_size to_letterMarks to_names to_spelled to_rows to_alike to_near to_asks to_letters to_words to_askCount) sz) := by
  refine Met.ofW (cc := cX8_ridge) (maxL := 3) (ret := (some .int)) (by decide) rfl ?_
  intro p e s m args below meth c s₁ B hml hv
  obtain ⟨rfl, hsz, hP, hK, hD0, hE⟩ := hv
  have hx := B.exec
  have hb := B.bytes
  have hr := B.returns
  have hts := atoms_spec (ws := wsX8_ridge) B.pre
  have hown : s.vm.findClass RX8 = some m.cls := findClass_of_methodNamed B.named
  have hlocks := B.notSynchronized
  subst hsz
  have hD := hD0.self (sz := s.heap.size)
  have hA : ∀ q : Nat, s.heap.size ≤ q → va_A (wX cB cI cJ cZ a (a 35) (a 4) ww_latestFault tp_bytes tp_size rd_fault rd_faultPlace rd_kind rd_start rd_at rd_number dr_letterMarks dr_names dr_spelled dr_rows dr_alike dr_near dr_asks dr_letters dr_words dr_askCount sh_lanes sh_sizes sh_cells la_xs la_ys la_heights la_ridgeXs la_ridgeHeights la_way la_blurs la_steps la_places la_ridges la_wayBlur la_wayLength bk_times bk_froms bk_asks bk_words bk_firsts bk_lies bk_held bk_size nu_learned nu_size to_letterMarks to_names to_spelled to_rows to_alike to_near to_asks to_letters to_words to_askCount) s.heap.size q := fun q h => Or.inr h
  generalize va_A (wX cB cI cJ cZ a (a 35) (a 4) ww_latestFault tp_bytes tp_size rd_fault rd_faultPlace rd_kind rd_start rd_at rd_number dr_letterMarks dr_names dr_spelled dr_rows dr_alike dr_near dr_asks dr_letters dr_words dr_askCount sh_lanes sh_sizes sh_cells la_xs la_ys la_heights la_ridgeXs la_ridgeHeights la_way la_blurs la_steps la_places la_ridges la_wayBlur la_wayLength bk_times bk_froms bk_asks bk_words bk_firsts bk_lies bk_held bk_size nu_learned nu_size to_letterMarks to_names to_spelled to_rows to_alike to_near to_asks to_letters to_words to_askCount) s.heap.size = A at hD hA hE ⊢
  have hS : va_S A s.heap s.heap [] := va_S.rf
  have C0 : cxt cX8_ridge (some .int) 3 RX8 wsX8_ridge (dC, dI) (tyz cB cI cJ cZ) (E_X adK adV) A p s m ([.ref (a 0), .int x1, .int x2] : List Value).toArray meth c := ⟨hx, hb, hr, hml, hown, hts, hlocks, hK, hA, hE⟩
  have hl := lv_entry ([.ref (a 0), .int x1, .int x2]) (n := 3) (Nat.le_of_ble_eq_true rfl)
  rw [lg_entry_eq]
  generalize (lg_sl ([.ref (a 0), .int x1, .int x2]) ++ List.replicate (3 - (lg_sl ([.ref (a 0), .int x1, .int x2])).length) Slot.unset).toArray = ls at hl ⊢
  have hl : lv_has ls 3 [(0, .ref (a 0)), (1, .int x1), (2, .int x2)] := hl
  have hw0 := hts (.fieldLink RX8 37 "WhistledWords" "land" "LWhistledWords$Land;") (by decide +kernel)
  have hw1 := hts (.fieldLink RX8 208 "WhistledWords$Land" "ridges" "I") (by decide +kernel)
  have hnX8 : ∀ w ∈ u_ws RX8 TX8 8, w ∈ wsX8_ridge := fun _ h => List.mem_cons_of_mem _ (List.mem_append_left _ (List.mem_append_right _ h))
  have hnX1 : ∀ w ∈ u_ws RX1 TX1 13, w ∈ wsX8_ridge := fun _ h => List.mem_cons_of_mem _ (List.mem_append_right _ h)
  unfold fX8_ridge at h
  refine lv_iload_n hx hb dX8_ridge_0 rfl (lv_at hl 1 rfl) ?_
  obtain ⟨v1, hc, h⟩ := bd1_use h
  refine cs_i (As := [.int x1]) (rest := []) ⟨hx, hb, hml, hown, hts⟩ (kX8_isMeasure l n x1 v1 hc) (va_cwS 1 hts gX8_ridge_X8_isMeasure rfl rfl rfl (by decide +kernel) ⟨Nat.le_of_ble_eq_true rfl, Nat.le_of_ble_eq_true rfl⟩) hP hS rfl hl.1 rfl (Nat.le_of_ble_eq_true rfl) dX8_ridge_1 ⟨Nat.zero_le _, Nat.zero_le _⟩ (fun H locs hP hS => ?_)
  refine lv_if_eq (tgt := 14) hx hb dX8_ridge_4 (by decide) (fun c2 => ?_) (fun c2 => ?_)
  · have h := it_use c2 h
    refine lv_iconst (v := -1) hx hb dX8_ridge_14 (by decide) ?_
    obtain ⟨er, ez0, ez1, ez2⟩ := rt4_use h
    subst ez0
    subst ez1
    subst ez2
    exact re_i hx hb hr hlocks hK hP hD hS er dX8_ridge_15
  · have h := ie_use c2 h
    refine lv_iload_n hx hb dX8_ridge_7 rfl (lv_at hl 2 rfl) ?_
    obtain ⟨v3, hc, h⟩ := bd1_use h
    refine cs_i (As := [.int x2]) (rest := []) ⟨hx, hb, hml, hown, hts⟩ (kX8_isMeasure l n x2 v3 hc) (va_cwS 1 hts gX8_ridge_X8_isMeasure rfl rfl rfl (by decide +kernel) ⟨Nat.le_of_ble_eq_true rfl, Nat.le_of_ble_eq_true rfl⟩) hP hS rfl hl.1 rfl (Nat.le_of_ble_eq_true rfl) dX8_ridge_8 ⟨Nat.zero_le _, Nat.zero_le _⟩ (fun H locs hP hS => ?_)
    refine lv_if_ne (tgt := 16) hx hb dX8_ridge_11 (by decide) (fun c4 => ?_) (fun c4 => ?_)
    · have h := ie_use c4 h
      refine lv_aload_n hx hb dX8_ridge_16 rfl (lv_at hl 0 rfl) ?_
      refine gX_ww_land hx hb hts hnX8 hown hK hP hw0 dX8_ridge_17 ?_
      refine lv_iload_n hx hb dX8_ridge_20 rfl (lv_at hl 1 rfl) ?_
      refine lv_iload_n hx hb dX8_ridge_21 rfl (lv_at hl 2 rfl) ?_
      obtain ⟨v5, f6, f7, v8, hc, h⟩ := bd4_use h
      refine cv_i (As := [.int x1, .int x2]) (rest := []) ⟨hx, hb, hml, hown, hts⟩ (kX1_addRidge l n dC dI cB cI cJ cZ a adK adV _ ww_latestFault tp_bytes tp_size rd_fault rd_faultPlace rd_kind rd_start rd_at rd_number dr_letterMarks dr_names dr_spelled dr_rows dr_alike dr_near dr_asks dr_letters dr_words dr_askCount sh_lanes sh_sizes sh_cells la_xs la_ys la_heights la_ridgeXs la_ridgeHeights la_way la_blurs la_steps la_places la_ridges la_wayBlur la_wayLength bk_times bk_froms bk_asks bk_words bk_firsts bk_lies bk_held bk_size nu_learned nu_size to_letterMarks to_names to_spelled to_rows to_alike to_near to_asks to_letters to_words to_askCount x1 x2 v5 f6 f7 v8 hc) (cwV 2 hts gX8_ridge_X1_addRidge rfl rfl rfl (by decide +kernel) ⟨Nat.le_of_ble_eq_true rfl, Nat.le_of_ble_eq_true rfl⟩) EB_X hE hK hP hD hS hA 16 (ci := 1) rfl rfl rfl rfl hl.1 rfl (Nat.le_of_ble_eq_true rfl) dX8_ridge_22 ⟨Nat.zero_le _, Nat.zero_le _⟩ (fun H locs hP hD hS => ?_)
      refine lv_if_eq (tgt := 38) hx hb dX8_ridge_25 (by decide) (fun c9 => ?_) (fun c9 => ?_)
      · have h := it_use c9 h
        refine lv_bipush (v := -3) hx hb dX8_ridge_38 (by decide) ?_
        obtain ⟨er, ez0, ez1, ez2⟩ := rt4_use h
        subst ez0
        subst ez1
        subst ez2
        exact re_i hx hb hr hlocks hK hP hD hS er dX8_ridge_40
      · have h := ie_use c9 h
        refine lv_aload_n hx hb dX8_ridge_28 rfl (lv_at hl 0 rfl) ?_
        refine gX_ww_land hx hb hts hnX8 hown hK hP hw0 dX8_ridge_29 ?_
        refine gX_land_ridges hx hb hts hnX1 hown hK hP hw1 dX8_ridge_32 ?_
        refine lv_goto (tgt := 40) hx hb dX8_ridge_35 (by decide) ?_
        obtain ⟨er, ez0, ez1, ez2⟩ := rt4_use h
        subst ez0
        subst ez1
        subst ez2
        exact re_i hx hb hr hlocks hK hP hD hS er dX8_ridge_40
    · have h := it_use c4 h
      refine lv_iconst (v := -1) hx hb dX8_ridge_14 (by decide) ?_
      obtain ⟨er, ez0, ez1, ez2⟩ := rt4_use h
      subst ez0
      subst ez1
      subst ez2
      exact re_i hx hb hr hlocks hK hP hD hS er dX8_ridge_15
set_option maxHeartbeats 4000000 in
set_option maxRecDepth 100000 in
theorem kX4_renew_p17_r {p : Program} {l : Launch} {e : Env} {s : State} {m : MethodId} {args : Array Value} {below : List Frame} {meth : Method} {c : Code} {A : Nat → Prop} (dC : Nat → ClassId) (dI : Nat → Nat → Nat) (cB cI cJ cZ : ClassId) (a : Nat → Nat) (adK adV : Nat → Nat) (C0 : cxt cX4_renew none 5 RX4 wsX4_renew (dC, dI) (tyz cB cI cJ cZ) (E_X adK adV) A p s m args meth c) (n : Nat) (ww_latestFault : Int32) (tp_bytes : Nat → Int32) (tp_size : Int32) (rd_fault : Int32) (rd_faultPlace : Int32) (rd_kind : Int32) (rd_start : Int32) (rd_at : Int32) (rd_number : Int32) (dr_letterMarks : Nat → Int32) (dr_names : Nat → Int64) (dr_spelled : Nat → Int32) (dr_rows : Nat → Int64) (dr_alike : Nat → Int32) (dr_near : Nat → Int32) (dr_asks : Nat → Int32) (dr_letters : Int32) (dr_words : Int32) (dr_askCount : Int32) (sh_lanes : Nat → Int32) (sh_sizes : Nat → Int32) (la_xs : Nat → Int32) (la_ys : Nat → Int32) (la_heights : Nat → Int32) (la_ridgeXs : Nat → Int32) (la_ridgeHeights : Nat → Int32) (la_way : Nat → Int32) (la_blurs : Nat → Int32) (la_steps : Nat → Int32) (la_places : Int32) (la_ridges : Int32) (la_wayBlur : Int32) (la_wayLength : Int32) (bk_times : Nat → Int32) (bk_froms : Nat → Int32) (bk_asks : Nat → Int32) (bk_words : Nat → Int32) (bk_firsts : Nat → Int32) (bk_lies : Nat → Int32) (bk_held : Nat → Int32) (bk_size : Int32) (nu_learned : Nat → Int32) (nu_size : Int32) (to_letterMarks : Nat → Int32) (to_names : Nat → Int64) (to_spelled : Nat → Int32) (to_rows : Nat → Int64) (to_alike : Nat → Int32) (to_near : Nat → Int32) (to_asks : Nat → Int32) (to_letters : Int32) (to_words : Int32) (to_askCount : Int32) (x1 : Int32) (x3 : Int32) (z_sh_lanes : Nat → Int32) (z_sh_sizes : Nat → Int32) (z_sh_cells : Nat → Int32)  : ∀ (k : Nat) (sh_cells : Nat → Int32) (x4 : Int32) (H : Heap) (locs : List Loc) (ls : Array Slot), fX4_renew_p17 n sh_lanes sh_sizes x1 x3 k sh_cells x4 = some (z_sh_lanes, z_sh_sizes, z_sh_cells) → va_P (dC, dI) vwCl (wX cB cI cJ cZ a (a 35) (a 4) ww_latestFault tp_bytes tp_size rd_fault rd_faultPlace rd_kind rd_start rd_at rd_number dr_letterMarks dr_names dr_spelled dr_rows dr_alike dr_near dr_asks dr_letters dr_words dr_askCount sh_lanes sh_sizes sh_cells la_xs la_ys la_heights la_ridgeXs la_ridgeHeights la_way la_blurs la_steps la_places la_ridges la_wayBlur la_wayLength bk_times bk_froms bk_asks bk_words bk_firsts bk_lies bk_held bk_size nu_learned nu_size to_letterMarks to_names to_spelled to_rows to_alike to_near to_asks to_letters to_words to_askCount) H → va_D A (wX cB cI cJ cZ a (a 35) (a 4) ww_latestFault tp_bytes tp_size rd_fault rd_faultPlace rd_kind rd_start rd_at rd_number dr_letterMarks dr_names dr_spelled dr_rows dr_alike dr_near dr_asks dr_letters dr_words dr_askCount sh_lanes sh_sizes sh_cells la_xs la_ys la_heights la_ridgeXs la_ridgeHeights la_way la_blurs la_steps la_places la_ridges la_wayBlur la_wayLength bk_times bk_froms bk_asks bk_words bk_firsts bk_lies bk_held bk_size nu_learned nu_size to_letterMarks to_names to_spelled to_rows to_alike to_near to_asks to_letters to_words to_askCount) → va_S A s.heap H locs → lv_has ls 5 [(0, .ref (a 12)), (1, .int x1), (3, .int x3), (4, .int x4)] → W p l e { frames := 0, cells := 0, slots := 0, locals := 0 } s m args below meth c H locs 0 0 (MQ below (gV (dC, dI) (tyz cB cI cJ cZ) (wX cB cI cJ cZ a (a 35) (a 4) ww_latestFault tp_bytes tp_size rd_fault rd_faultPlace rd_kind rd_start rd_at rd_number dr_letterMarks dr_names dr_spelled dr_rows dr_alike dr_near dr_asks dr_letters dr_words dr_askCount z_sh_lanes z_sh_sizes z_sh_cells la_xs la_ys la_heights la_ridgeXs la_ridgeHeights la_way la_blurs la_steps la_places la_ridges la_wayBlur la_wayLength bk_times bk_froms bk_asks bk_words bk_firsts bk_lies bk_held bk_size nu_learned nu_size to_letterMarks to_names to_spelled to_rows to_alike to_near to_asks to_letters to_words to_askCount) A) args s 0 0 A) (F0 m 17 ls []) := by
  obtain ⟨hx, hb, hr, hml, hown, hts, hlocks, hK, hA, hE⟩ := id C0
  have hw0 := hts (.fieldLink RX4 24 "WhistledWords$Sheets" "cells" "[I") (by decide +kernel)
  have hnX4 : ∀ w ∈ u_ws RX4 TX4 3, w ∈ wsX4_renew := fun _ h => List.mem_cons_of_mem _ (List.mem_append_right _ h)
  intro k
  induction k with
  | zero =>
    intro sh_cells x4 H locs ls h
    cases h
  | succ k ih =>
    intro sh_cells x4 H locs ls h hP hD hS hl
    rw [fX4_renew_p17] at h
    refine lv_iload hx hb dX4_renew_17 (lv_at hl 3 rfl) ?_
    refine lv_iload_n hx hb dX4_renew_19 rfl (lv_at hl 2 rfl) ?_
    refine lv_icmp_ge (tgt := 42) hx hb dX4_renew_20 (by decide) (fun c1 => ?_) (fun c1 => ?_)
    · have h := it_use c1 h
      obtain ⟨ez0, ez1, ez2⟩ := rt3_use h
      subst ez0
      subst ez1
      subst ez2
      exact re_v hx hb hr hlocks hK hP hD hS dX4_renew_42
    · have h := ie_use c1 h
      refine lv_aload_n hx hb dX4_renew_23 rfl (lv_at hl 0 rfl) ?_
      refine gX_sheets_cells hx hb hts hnX4 hown hK hP hw0 dX4_renew_24 ?_
      refine lv_iload_n hx hb dX4_renew_27 rfl (lv_at hl 1 rfl) ?_
      refine lv_bipush (v := 60) hx hb dX4_renew_28 (by decide) ?_
      refine lv_imul hx hb dX4_renew_30 ?_
      refine lv_iload hx hb dX4_renew_31 (lv_at hl 3 rfl) ?_
      refine lv_iadd hx hb dX4_renew_33 ?_
      refine lv_iconst (v := 0) hx hb dX4_renew_34 (by decide) ?_
      obtain ⟨hif2, f2, ef2, h⟩ := aw_use h
      refine sX_sheets_cells hx hb hK hP hD hS hif2 ef2 dX4_renew_35 (fun H locs hP hD hS => ?_)
      refine lv_iinc (v := x4 + 1) (lv' := [(4, .int (x4 + 1)), (0, .ref (a 12)), (1, .int x1), (3, .int x3)]) hx hb dX4_renew_36 hl (k := 3) rfl rfl (by decide) rfl (fun ls hl => ?_)
      refine lv_goto (tgt := 17) hx hb dX4_renew_39 (by decide) ?_
      exact ih f2 (x4 + 1) _ _ ls h hP hD hS (lv_sub hl [1, 2, 3, 0] rfl)
theorem kX4_renew_p17 {p : Program} {l : Launch} {e : Env} {s : State} {m : MethodId} {args : Array Value} {below : List Frame} {meth : Method} {c : Code} {A : Nat → Prop} (dC : Nat → ClassId) (dI : Nat → Nat → Nat) (cB cI cJ cZ : ClassId) (a : Nat → Nat) (adK adV : Nat → Nat) (C0 : cxt cX4_renew none 5 RX4 wsX4_renew (dC, dI) (tyz cB cI cJ cZ) (E_X adK adV) A p s m args meth c) (n : Nat) (ww_latestFault : Int32) (tp_bytes : Nat → Int32) (tp_size : Int32) (rd_fault : Int32) (rd_faultPlace : Int32) (rd_kind : Int32) (rd_start : Int32) (rd_at : Int32) (rd_number : Int32) (dr_letterMarks : Nat → Int32) (dr_names : Nat → Int64) (dr_spelled : Nat → Int32) (dr_rows : Nat → Int64) (dr_alike : Nat → Int32) (dr_near : Nat → Int32) (dr_asks : Nat → Int32) (dr_letters : Int32) (dr_words : Int32) (dr_askCount : Int32) (sh_lanes : Nat → Int32) (sh_sizes : Nat → Int32) (sh_cells : Nat → Int32) (la_xs : Nat → Int32) (la_ys : Nat → Int32) (la_heights : Nat → Int32) (la_ridgeXs : Nat → Int32) (la_ridgeHeights : Nat → Int32) (la_way : Nat → Int32) (la_blurs : Nat → Int32) (la_steps : Nat → Int32) (la_places : Int32) (la_ridges : Int32) (la_wayBlur : Int32) (la_wayLength : Int32) (bk_times : Nat → Int32) (bk_froms : Nat → Int32) (bk_asks : Nat → Int32) (bk_words : Nat → Int32) (bk_firsts : Nat → Int32) (bk_lies : Nat → Int32) (bk_held : Nat → Int32) (bk_size : Int32) (nu_learned : Nat → Int32) (nu_size : Int32) (to_letterMarks : Nat → Int32) (to_names : Nat → Int64) (to_spelled : Nat → Int32) (to_rows : Nat → Int64) (to_alike : Nat → Int32) (to_near : Nat → Int32) (to_asks : Nat → Int32) (to_letters : Int32) (to_words : Int32) (to_askCount : Int32)  (x1 : Int32) (x3 : Int32) (x4 : Int32) (z_sh_lanes : Nat → Int32) (z_sh_sizes : Nat → Int32) (z_sh_cells : Nat → Int32)  (k : Nat) (H : Heap) (locs : List Loc) (ls : Array Slot) : fX4_renew_p17 n sh_lanes sh_sizes x1 x3 k sh_cells x4 = some (z_sh_lanes, z_sh_sizes, z_sh_cells) → va_P (dC, dI) vwCl (wX cB cI cJ cZ a (a 35) (a 4) ww_latestFault tp_bytes tp_size rd_fault rd_faultPlace rd_kind rd_start rd_at rd_number dr_letterMarks dr_names dr_spelled dr_rows dr_alike dr_near dr_asks dr_letters dr_words dr_askCount sh_lanes sh_sizes sh_cells la_xs la_ys la_heights la_ridgeXs la_ridgeHeights la_way la_blurs la_steps la_places la_ridges la_wayBlur la_wayLength bk_times bk_froms bk_asks bk_words bk_firsts bk_lies bk_held bk_size nu_learned nu_size to_letterMarks to_names to_spelled to_rows to_alike to_near to_asks to_letters to_words to_askCount) H → va_D A (wX cB cI cJ cZ a (a 35) (a 4) ww_latestFault tp_bytes tp_size rd_fault rd_faultPlace rd_kind rd_start rd_at rd_number dr_letterMarks dr_names dr_spelled dr_rows dr_alike dr_near dr_asks dr_letters dr_words dr_askCount sh_lanes sh_sizes sh_cells la_xs la_ys la_heights la_ridgeXs la_ridgeHeights la_way la_blurs la_steps la_places la_ridges la_wayBlur la_wayLength bk_times bk_froms bk_asks bk_words bk_firsts bk_lies bk_held bk_size nu_learned nu_size to_letterMarks to_names to_spelled to_rows to_alike to_near to_asks to_letters to_words to_askCount) → va_S A s.heap H locs → lv_has ls 5 [(0, .ref (a 12)), (1, .int x1), (3, .int x3), (4, .int x4)] → W p l e { frames := 0, cells := 0, slots := 0, locals := 0 } s m args below meth c H locs 0 0 (MQ below (gV (dC, dI) (tyz cB cI cJ cZ) (wX cB cI cJ cZ a (a 35) (a 4) ww_latestFault tp_bytes tp_size rd_fault rd_faultPlace rd_kind rd_start rd_at rd_number dr_letterMarks dr_names dr_spelled dr_rows dr_alike dr_near dr_asks dr_letters dr_words dr_askCount z_sh_lanes z_sh_sizes z_sh_cells la_xs la_ys la_heights la_ridgeXs la_ridgeHeights la_way la_blurs la_steps la_places la_ridges la_wayBlur la_wayLength bk_times bk_froms bk_asks bk_words bk_firsts bk_lies bk_held bk_size nu_learned nu_size to_letterMarks to_names to_spelled to_rows to_alike to_near to_asks to_letters to_words to_askCount) A) args s 0 0 A) (F0 m 17 ls []) :=
  kX4_renew_p17_r dC dI cB cI cJ cZ a adK adV C0 n ww_latestFault tp_bytes tp_size rd_fault rd_faultPlace rd_kind rd_start rd_at rd_number dr_letterMarks dr_names dr_spelled dr_rows dr_alike dr_near dr_asks dr_letters dr_words dr_askCount sh_lanes sh_sizes la_xs la_ys la_heights la_ridgeXs la_ridgeHeights la_way la_blurs la_steps la_places la_ridges la_wayBlur la_wayLength bk_times bk_froms bk_asks bk_words bk_firsts bk_lies bk_held bk_size nu_learned nu_size to_letterMarks to_names to_spelled to_rows to_alike to_near to_asks to_letters to_words to_askCount x1 x3 z_sh_lanes z_sh_sizes z_sh_cells  k sh_cells x4 H locs ls
set_option maxHeartbeats 4000000 in
set_option maxRecDepth 100000 in
theorem kX4_renew (l : Launch) (n : Nat) (dC : Nat → ClassId) (dI : Nat → Nat → Nat) (cB cI cJ cZ : ClassId) (a : Nat → Nat) (adK adV : Nat → Nat) (sz : Nat) (ww_latestFault : Int32) (tp_bytes : Nat → Int32) (tp_size : Int32) (rd_fault : Int32) (rd_faultPlace : Int32) (rd_kind : Int32) (rd_start : Int32) (rd_at : Int32) (rd_number : Int32) (dr_letterMarks : Nat → Int32) (dr_names : Nat → Int64) (dr_spelled : Nat → Int32) (dr_rows : Nat → Int64) (dr_alike : Nat → Int32) (dr_near : Nat → Int32) (dr_asks : Nat → Int32) (dr_letters : Int32) (dr_words : Int32) (dr_askCount : Int32) (sh_lanes : Nat → Int32) (sh_sizes : Nat → Int32) (sh_cells : Nat → Int32) (la_xs : Nat → Int32) (la_ys : Nat → Int32) (la_heights : Nat → Int32) (la_ridgeXs : Nat → Int32) (la_ridgeHeights : Nat → Int32) (la_way : Nat → Int32) (la_blurs : Nat → Int32) (la_steps : Nat → Int32) (la_places : Int32) (la_ridges : Int32) (la_wayBlur : Int32) (la_wayLength : Int32) (bk_times : Nat → Int32) (bk_froms : Nat → Int32) (bk_asks : Nat → Int32) (bk_words : Nat → Int32) (bk_firsts : Nat → Int32) (bk_lies : Nat → Int32) (bk_held : Nat → Int32) (bk_size : Int32) (nu_learned : Nat → Int32) (nu_size : Int32) (to_letterMarks : Nat → Int32) (to_names : Nat → Int64) (to_spelled : Nat → Int32) (to_rows : Nat → Int64) (to_alike : Nat → Int32) (to_near : Nat → Int32) (to_asks : Nat → Int32) (to_letters : Int32) (to_words : Int32) (to_askCount : Int32) (x1 : Int32) (x2 : Int32) (x3 : Int32) (z_sh_lanes : Nat → Int32) (z_sh_sizes : Nat → Int32) (z_sh_cells : Nat → Int32) (h : fX4_renew n sh_lanes sh_sizes sh_cells x1 x2 x3 = some (z_sh_lanes, z_sh_sizes, z_sh_cells)) : Met l yX4_renew wsX4_renew ({ frames := 0, cells := 0, slots := 0, locals := 0 }) (gP (dC, dI) (tyz cB cI cJ cZ) (E_X adK adV) (wX cB cI cJ cZ a (a 35) (a 4) ww_latestFault tp_bytes tp_size rd_fault rd_faultPlace rd_kind rd_start rd_at rd_number dr_letterMarks dr_names dr_spelled dr_rows dr_alike dr_near dr_asks dr_letters dr_words dr_askCount sh_lanes sh_sizes sh_cells la_xs la_ys la_heights la_ridgeXs la_ridgeHeights la_way la_blurs la_steps la_places la_ridges la_wayBlur la_wayLength bk_times bk_froms bk_asks bk_words bk_firsts bk_lies bk_held bk_size nu_learned nu_size to_letterMarks to_names to_spelled to_rows to_alike to_near to_asks to_letters to_words to_askCount) sz [.ref (a 12), .int x1, .int x2, .int x3]) (gV (dC, dI) (tyz cB cI cJ cZ) (wX cB cI cJ cZ a (a 35) (a 4) ww_latestFault tp_bytes tp_size rd_fault rd_faultPlace rd_kind rd_start rd_at rd_number dr_letterMarks dr_names dr_spelled dr_rows dr_alike dr_near dr_asks dr_letters dr_words dr_askCount z_sh_lanes z_sh_sizes z_sh_cells la_xs la_ys la_heights la_ridgeXs la_ridgeHeights la_way la_blurs la_steps la_places la_ridges la_wayBlur la_wayLength bk_times bk_froms bk_asks bk_words bk_firsts bk_lies bk_held bk_size nu_learned nu_size to_letterMarks to_names to_spelled to_rows to_alike to_near to_asks to_letters to_words to_askCount) (va_A (wX cB cI cJ cZ a (a 35) (a 4) ww_latestFault tp_bytes tp_size rd_fault rd_faultPlace rd_kind rd_start rd_at rd_number dr_letterMarks dr_names dr_spelled dr_rows dr_alike dr_near dr_asks dr_letters dr_words dr_askCount sh_lanes sh_sizes sh_cells la_xs la_ys la_heights la_ridgeXs la_ridgeHeights la_way la_blurs la_steps la_places la_ridges la_wayBlur la_wayLength bk_times bk_froms bk_asks bk_words bk_firsts bk_lies bk_held bk_size nu_learned nu_size to_letterMarks to_names to_spelled to_rows to_alike to_near to_asks to_letters to_words to_askCount) sz)) 0 0 (va_A (wX cB cI cJ cZ a (a 35) (a 4) ww_latestFault tp_bytes tp_size rd_fault rd_faultPlace rd_kind rd_start rd_at rd_number dr_letterMarks dr_names dr_spelled dr_rows dr_alike dr_near dr_asks dr_letters dr_words dr_askCount sh_lanes sh_sizes sh_cells la_xs la_ys la_heights la_ridgeXs la_ridgeHeights la_way la_blurs la_steps la_places la_ridges la_wayBlur la_wayLength bk_times bk_froms bk_asks bk_words bk_firsts bk_lies bk_held bk_size nu_learned nu_size to_letterMarks to_names to_spelled to_rows to_alike to_near to_asks to_letters to_words to_askCount) sz) := by
  refine Met.ofW (cc := cX4_renew) (maxL := 5) (ret := none) (by decide) rfl ?_
  intro p e s m args below meth c s₁ B hml hv
  obtain ⟨rfl, hsz, hP, hK, hD0, hE⟩ := hv
  have hx := B.exec
  have hb := B.bytes
  have hr := B.returns
  have hts := atoms_spec (ws := wsX4_renew) B.pre
  have hown : s.vm.findClass RX4 = some m.cls := findClass_of_methodNamed B.named
  have hlocks := B.notSynchronized
  subst hsz
  have hD := hD0.self (sz := s.heap.size)
  have hA : ∀ q : Nat, s.heap.size ≤ q → va_A (wX cB cI cJ cZ a (a 35) (a 4) ww_latestFault tp_bytes tp_size rd_fault rd_faultPlace rd_kind rd_start rd_at rd_number dr_letterMarks dr_names dr_spelled dr_rows dr_alike dr_near dr_asks dr_letters dr_words dr_askCount sh_lanes sh_sizes sh_cells la_xs la_ys la_heights la_ridgeXs la_ridgeHeights la_way la_blurs la_steps la_places la_ridges la_wayBlur la_wayLength bk_times bk_froms bk_asks bk_words bk_firsts bk_lies bk_held bk_size nu_learned nu_size to_letterMarks to_names to_spelled to_rows to_alike to_near to_asks to_letters to_words to_askCount) s.heap.size q := fun q h => Or.inr h
  generalize va_A (wX cB cI cJ cZ a (a 35) (a 4) ww_latestFault tp_bytes tp_size rd_fault rd_faultPlace rd_kind rd_start rd_at rd_number dr_letterMarks dr_names dr_spelled dr_rows dr_alike dr_near dr_asks dr_letters dr_words dr_askCount sh_lanes sh_sizes sh_cells la_xs la_ys la_heights la_ridgeXs la_ridgeHeights la_way la_blurs la_steps la_places la_ridges la_wayBlur la_wayLength bk_times bk_froms bk_asks bk_words bk_firsts bk_lies bk_held bk_size nu_learned nu_size to_letterMarks to_names to_spelled to_rows to_alike to_near to_asks to_letters to_words to_askCount) s.heap.size = A at hD hA hE ⊢
  have hS : va_S A s.heap s.heap [] := va_S.rf
  have C0 : cxt cX4_renew none 5 RX4 wsX4_renew (dC, dI) (tyz cB cI cJ cZ) (E_X adK adV) A p s m ([.ref (a 12), .int x1, .int x2, .int x3] : List Value).toArray meth c := ⟨hx, hb, hr, hml, hown, hts, hlocks, hK, hA, hE⟩
  have hl := lv_entry ([.ref (a 12), .int x1, .int x2, .int x3]) (n := 5) (Nat.le_of_ble_eq_true rfl)
  rw [lg_entry_eq]
  generalize (lg_sl ([.ref (a 12), .int x1, .int x2, .int x3]) ++ List.replicate (5 - (lg_sl ([.ref (a 12), .int x1, .int x2, .int x3])).length) Slot.unset).toArray = ls at hl ⊢
  have hl : lv_has ls 5 [(0, .ref (a 12)), (1, .int x1), (2, .int x2), (3, .int x3)] := hl
  have hw0 := hts (.fieldLink RX4 11 "WhistledWords$Sheets" "lanes" "[I") (by decide +kernel)
  have hw1 := hts (.fieldLink RX4 15 "WhistledWords$Sheets" "sizes" "[I") (by decide +kernel)
  have hnX4 : ∀ w ∈ u_ws RX4 TX4 3, w ∈ wsX4_renew := fun _ h => List.mem_cons_of_mem _ (List.mem_append_right _ h)
  unfold fX4_renew at h
  refine lv_aload_n hx hb dX4_renew_0 rfl (lv_at hl 0 rfl) ?_
  refine gX_sheets_lanes hx hb hts hnX4 hown hK hP hw0 dX4_renew_1 ?_
  refine lv_iload_n hx hb dX4_renew_4 rfl (lv_at hl 1 rfl) ?_
  refine lv_iload_n hx hb dX4_renew_5 rfl (lv_at hl 2 rfl) ?_
  obtain ⟨hif1, f1, ef1, h⟩ := aw_use h
  refine sX_sheets_lanes hx hb hK hP hD hS hif1 ef1 dX4_renew_6 (fun H locs hP hD hS => ?_)
  refine lv_aload_n hx hb dX4_renew_7 rfl (lv_at hl 0 rfl) ?_
  refine gX_sheets_sizes hx hb hts hnX4 hown hK hP hw1 dX4_renew_8 ?_
  refine lv_iload_n hx hb dX4_renew_11 rfl (lv_at hl 1 rfl) ?_
  refine lv_iload_n hx hb dX4_renew_12 rfl (lv_at hl 3 rfl) ?_
  obtain ⟨hif2, f2, ef2, h⟩ := aw_use h
  refine sX_sheets_sizes hx hb hK hP hD hS hif2 ef2 dX4_renew_13 (fun H locs hP hD hS => ?_)
  refine lv_iconst (v := 0) hx hb dX4_renew_14 (by decide) ?_
  refine lv_istore (lv' := [(4, .int (0 : Int32)), (0, .ref (a 12)), (1, .int x1), (2, .int x2), (3, .int x3)]) hx hb dX4_renew_15 hl (by decide) rfl (fun ls hl => ?_)
  exact kX4_renew_p17 dC dI cB cI cJ cZ a adK adV C0 n ww_latestFault tp_bytes tp_size rd_fault rd_faultPlace rd_kind rd_start rd_at rd_number dr_letterMarks dr_names dr_spelled dr_rows dr_alike dr_near dr_asks dr_letters dr_words dr_askCount f1 f2 sh_cells la_xs la_ys la_heights la_ridgeXs la_ridgeHeights la_way la_blurs la_steps la_places la_ridges la_wayBlur la_wayLength bk_times bk_froms bk_asks bk_words bk_firsts bk_lies bk_held bk_size nu_learned nu_size to_letterMarks to_names to_spelled to_rows to_alike to_near to_asks to_letters to_words to_askCount x1 x3 (0 : Int32) z_sh_lanes z_sh_sizes z_sh_cells  n _ _ ls h hP hD hS (lv_sub hl [1, 2, 4, 0] rfl)
set_option maxHeartbeats 4000000 in
set_option maxRecDepth 100000 in
theorem kX8_sheet (l : Launch) (n : Nat) (dC : Nat → ClassId) (dI : Nat → Nat → Nat) (cB cI cJ cZ : ClassId) (a : Nat → Nat) (adK adV : Nat → Nat) (sz : Nat) (ww_latestFault : Int32) (tp_bytes : Nat → Int32) (tp_size : Int32) (rd_fault : Int32) (rd_faultPlace : Int32) (rd_kind : Int32) (rd_start : Int32) (rd_at : Int32) (rd_number : Int32) (dr_letterMarks : Nat → Int32) (dr_names : Nat → Int64) (dr_spelled : Nat → Int32) (dr_rows : Nat → Int64) (dr_alike : Nat → Int32) (dr_near : Nat → Int32) (dr_asks : Nat → Int32) (dr_letters : Int32) (dr_words : Int32) (dr_askCount : Int32) (sh_lanes : Nat → Int32) (sh_sizes : Nat → Int32) (sh_cells : Nat → Int32) (la_xs : Nat → Int32) (la_ys : Nat → Int32) (la_heights : Nat → Int32) (la_ridgeXs : Nat → Int32) (la_ridgeHeights : Nat → Int32) (la_way : Nat → Int32) (la_blurs : Nat → Int32) (la_steps : Nat → Int32) (la_places : Int32) (la_ridges : Int32) (la_wayBlur : Int32) (la_wayLength : Int32) (bk_times : Nat → Int32) (bk_froms : Nat → Int32) (bk_asks : Nat → Int32) (bk_words : Nat → Int32) (bk_firsts : Nat → Int32) (bk_lies : Nat → Int32) (bk_held : Nat → Int32) (bk_size : Int32) (nu_learned : Nat → Int32) (nu_size : Int32) (to_letterMarks : Nat → Int32) (to_names : Nat → Int64) (to_spelled : Nat → Int32) (to_rows : Nat → Int64) (to_alike : Nat → Int32) (to_near : Nat → Int32) (to_asks : Nat → Int32) (to_letters : Int32) (to_words : Int32) (to_askCount : Int32) (x1 : Int32) (x2 : Int32) (x3 : Int32) (r0 : Int32) (z_sh_lanes : Nat → Int32) (z_sh_sizes : Nat → Int32) (z_sh_cells : Nat → Int32) (h : fX8_sheet n sh_lanes sh_sizes sh_cells x1 x2 x3 = some (r0, z_sh_lanes, z_sh_sizes, z_sh_cells)) : Met l yX8_sheet wsX8_sheet ({ frames := 1, cells := 0, slots := 0, locals := 24 }) (gP (dC, dI) (tyz cB cI cJ cZ) (E_X adK adV) (wX cB cI cJ cZ a (a 35) (a 4) ww_latestFault tp_bytes tp_size rd_fault rd_faultPlace rd_kind rd_start rd_at rd_number dr_letterMarks dr_names dr_spelled dr_rows dr_alike dr_near dr_asks dr_letters dr_words dr_askCount sh_lanes sh_sizes sh_cells la_xs la_ys la_heights la_ridgeXs la_ridgeHeights la_way la_blurs la_steps la_places la_ridges la_wayBlur la_wayLength bk_times bk_froms bk_asks bk_words bk_firsts bk_lies bk_held bk_size nu_learned nu_size to_letterMarks to_names to_spelled to_rows to_alike to_near to_asks to_letters to_words to_askCount) sz [.ref (a 0), .int x1, .int x2, .int x3]) (gI (dC, dI) (tyz cB cI cJ cZ) (wX cB cI cJ cZ a (a 35) (a 4) ww_latestFault tp_bytes tp_size rd_fault rd_faultPlace rd_kind rd_start rd_at rd_number dr_letterMarks dr_names dr_spelled dr_rows dr_alike dr_near dr_asks dr_letters dr_words dr_askCount z_sh_lanes z_sh_sizes z_sh_cells la_xs la_ys la_heights la_ridgeXs la_ridgeHeights la_way la_blurs la_steps la_places la_ridges la_wayBlur la_wayLength bk_times bk_froms bk_asks bk_words bk_firsts bk_lies bk_held bk_size nu_learned nu_size to_letterMarks to_names to_spelled to_rows to_alike to_near to_asks to_letters to_words to_askCount) (va_A (wX cB cI cJ cZ a (a 35) (a 4) ww_latestFault tp_bytes tp_size rd_fault rd_faultPlace rd_kind rd_start rd_at rd_number dr_letterMarks dr_names dr_spelled dr_rows dr_alike dr_near dr_asks dr_letters dr_words dr_askCount sh_lanes sh_sizes sh_cells la_xs la_ys la_heights la_ridgeXs la_ridgeHeights la_way la_blurs la_steps la_places la_ridges la_wayBlur la_wayLength bk_times bk_froms bk_asks bk_words bk_firsts bk_lies bk_held bk_size nu_learned nu_size to_letterMarks to_names to_spelled to_rows to_alike to_near to_asks to_letters to_words to_askCount) sz) r0) 0 0 (va_A (wX cB cI cJ cZ a (a 35) (a 4) ww_latestFault tp_bytes tp_size rd_fault rd_faultPlace rd_kind rd_start rd_at rd_number dr_letterMarks dr_names dr_spelled dr_rows dr_alike dr_near dr_asks dr_letters dr_words dr_askCount sh_lanes sh_sizes sh_cells la_xs la_ys la_heights la_ridgeXs la_ridgeHeights la_way la_blurs la_steps la_places la_ridges la_wayBlur la_wayLength bk_times bk_froms bk_asks bk_words bk_firsts bk_lies bk_held bk_size nu_learned nu_size to_letterMarks to_names to_spelled to_rows to_alike to_near to_asks to_letters to_words to_askCount) sz) := by
  refine Met.ofW (cc := cX8_sheet) (maxL := 4) (ret := (some .int)) (by decide) rfl ?_
  intro p e s m args below meth c s₁ B hml hv
  obtain ⟨rfl, hsz, hP, hK, hD0, hE⟩ := hv
  have hx := B.exec
  have hb := B.bytes
  have hr := B.returns
  have hts := atoms_spec (ws := wsX8_sheet) B.pre
  have hown : s.vm.findClass RX8 = some m.cls := findClass_of_methodNamed B.named
  have hlocks := B.notSynchronized
  subst hsz
  have hD := hD0.self (sz := s.heap.size)
  have hA : ∀ q : Nat, s.heap.size ≤ q → va_A (wX cB cI cJ cZ a (a 35) (a 4) ww_latestFault tp_bytes tp_size rd_fault rd_faultPlace rd_kind rd_start rd_at rd_number dr_letterMarks dr_names dr_spelled dr_rows dr_alike dr_near dr_asks dr_letters dr_words dr_askCount sh_lanes sh_sizes sh_cells la_xs la_ys la_heights la_ridgeXs la_ridgeHeights la_way la_blurs la_steps la_places la_ridges la_wayBlur la_wayLength bk_times bk_froms bk_asks bk_words bk_firsts bk_lies bk_held bk_size nu_learned nu_size to_letterMarks to_names to_spelled to_rows to_alike to_near to_asks to_letters to_words to_askCount) s.heap.size q := fun q h => Or.inr h
  generalize va_A (wX cB cI cJ cZ a (a 35) (a 4) ww_latestFault tp_bytes tp_size rd_fault rd_faultPlace rd_kind rd_start rd_at rd_number dr_letterMarks dr_names dr_spelled dr_rows dr_alike dr_near dr_asks dr_letters dr_words dr_askCount sh_lanes sh_sizes sh_cells la_xs la_ys la_heights la_ridgeXs la_ridgeHeights la_way la_blurs la_steps la_places la_ridges la_wayBlur la_wayLength bk_times bk_froms bk_asks bk_words bk_firsts bk_lies bk_held bk_size nu_learned nu_size to_letterMarks to_names to_spelled to_rows to_alike to_near to_asks to_letters to_words to_askCount) s.heap.size = A at hD hA hE ⊢
  have hS : va_S A s.heap s.heap [] := va_S.rf
  have C0 : cxt cX8_sheet (some .int) 4 RX8 wsX8_sheet (dC, dI) (tyz cB cI cJ cZ) (E_X adK adV) A p s m ([.ref (a 0), .int x1, .int x2, .int x3] : List Value).toArray meth c := ⟨hx, hb, hr, hml, hown, hts, hlocks, hK, hA, hE⟩
  have hl := lv_entry ([.ref (a 0), .int x1, .int x2, .int x3]) (n := 4) (Nat.le_of_ble_eq_true rfl)
  rw [lg_entry_eq]
  generalize (lg_sl ([.ref (a 0), .int x1, .int x2, .int x3]) ++ List.replicate (4 - (lg_sl ([.ref (a 0), .int x1, .int x2, .int x3])).length) Slot.unset).toArray = ls at hl ⊢
  have hl : lv_has ls 4 [(0, .ref (a 0)), (1, .int x1), (2, .int x2), (3, .int x3)] := hl
  have hw0 := hts (.fieldLink RX8 28 "WhistledWords" "sheets" "LWhistledWords$Sheets;") (by decide +kernel)
  have hnX8 : ∀ w ∈ u_ws RX8 TX8 8, w ∈ wsX8_sheet := fun _ h => List.mem_cons_of_mem _ (List.mem_append_left _ (List.mem_append_right _ h))
  unfold fX8_sheet at h
  refine lv_iload_n hx hb dX8_sheet_0 rfl (lv_at hl 1 rfl) ?_
  obtain ⟨v1, hc, h⟩ := bd1_use h
  refine cs_i (As := [.int x1]) (rest := []) ⟨hx, hb, hml, hown, hts⟩ (kX4_isSheet l n x1 v1 hc) (va_cwS 1 hts gX8_sheet_X4_isSheet rfl rfl rfl (by decide +kernel) ⟨Nat.le_of_ble_eq_true rfl, Nat.le_of_ble_eq_true rfl⟩) hP hS rfl hl.1 rfl (Nat.le_of_ble_eq_true rfl) dX8_sheet_1 ⟨Nat.zero_le _, Nat.zero_le _⟩ (fun H locs hP hS => ?_)
  refine lv_if_eq (tgt := 20) hx hb dX8_sheet_4 (by decide) (fun c2 => ?_) (fun c2 => ?_)
  · have h := it_use c2 h
    refine lv_iconst (v := -1) hx hb dX8_sheet_20 (by decide) ?_
    obtain ⟨er, ez0, ez1, ez2⟩ := rt4_use h
    subst ez0
    subst ez1
    subst ez2
    exact re_i hx hb hr hlocks hK hP hD hS er dX8_sheet_21
  · have h := ie_use c2 h
    refine lv_iload_n hx hb dX8_sheet_7 rfl (lv_at hl 2 rfl) ?_
    obtain ⟨v3, hc, h⟩ := bd1_use h
    refine cs_i (As := [.int x2]) (rest := []) ⟨hx, hb, hml, hown, hts⟩ (kX4_isLane l n x2 v3 hc) (va_cwS 1 hts gX8_sheet_X4_isLane rfl rfl rfl (by decide +kernel) ⟨Nat.le_of_ble_eq_true rfl, Nat.le_of_ble_eq_true rfl⟩) hP hS rfl hl.1 rfl (Nat.le_of_ble_eq_true rfl) dX8_sheet_8 ⟨Nat.zero_le _, Nat.zero_le _⟩ (fun H locs hP hS => ?_)
    refine lv_if_eq (tgt := 20) hx hb dX8_sheet_11 (by decide) (fun c4 => ?_) (fun c4 => ?_)
    · have h := it_use c4 h
      refine lv_iconst (v := -1) hx hb dX8_sheet_20 (by decide) ?_
      obtain ⟨er, ez0, ez1, ez2⟩ := rt4_use h
      subst ez0
      subst ez1
      subst ez2
      exact re_i hx hb hr hlocks hK hP hD hS er dX8_sheet_21
    · have h := ie_use c4 h
      refine lv_iload_n hx hb dX8_sheet_14 rfl (lv_at hl 3 rfl) ?_
      refine lv_bipush (v := 60) hx hb dX8_sheet_15 (by decide) ?_
      refine lv_icmp_le (tgt := 22) hx hb dX8_sheet_17 (by decide) (fun c5 => ?_) (fun c5 => ?_)
      · have h := it_use c5 h
        refine lv_iload_n hx hb dX8_sheet_22 rfl (lv_at hl 3 rfl) ?_
        refine lv_if_ge (tgt := 29) hx hb dX8_sheet_23 (by decide) (fun c6 => ?_) (fun c6 => ?_)
        · have h := it_use c6 h
          refine lv_aload_n hx hb dX8_sheet_29 rfl (lv_at hl 0 rfl) ?_
          refine gX_ww_sheets hx hb hts hnX8 hown hK hP hw0 dX8_sheet_30 ?_
          refine lv_iload_n hx hb dX8_sheet_33 rfl (lv_at hl 1 rfl) ?_
          refine lv_iload_n hx hb dX8_sheet_34 rfl (lv_at hl 2 rfl) ?_
          refine lv_iload_n hx hb dX8_sheet_35 rfl (lv_at hl 3 rfl) ?_
          obtain ⟨f7, f8, f9, hc, h⟩ := bd3_use h
          refine cv_v (As := [.int x1, .int x2, .int x3]) (rest := []) ⟨hx, hb, hml, hown, hts⟩ (kX4_renew l n dC dI cB cI cJ cZ a adK adV _ ww_latestFault tp_bytes tp_size rd_fault rd_faultPlace rd_kind rd_start rd_at rd_number dr_letterMarks dr_names dr_spelled dr_rows dr_alike dr_near dr_asks dr_letters dr_words dr_askCount sh_lanes sh_sizes sh_cells la_xs la_ys la_heights la_ridgeXs la_ridgeHeights la_way la_blurs la_steps la_places la_ridges la_wayBlur la_wayLength bk_times bk_froms bk_asks bk_words bk_firsts bk_lies bk_held bk_size nu_learned nu_size to_letterMarks to_names to_spelled to_rows to_alike to_near to_asks to_letters to_words to_askCount x1 x2 x3 f7 f8 f9 hc) (cwV 3 hts gX8_sheet_X4_renew rfl rfl rfl (by decide +kernel) ⟨Nat.le_of_ble_eq_true rfl, Nat.le_of_ble_eq_true rfl⟩) EB_X hE hK hP hD hS hA 12 (ci := 3) rfl rfl rfl rfl hl.1 rfl (Nat.le_of_ble_eq_true rfl) dX8_sheet_36 ⟨Nat.zero_le _, Nat.zero_le _⟩ (fun H locs hP hD hS => ?_)
          refine lv_iconst (v := 1) hx hb dX8_sheet_39 (by decide) ?_
          obtain ⟨er, ez0, ez1, ez2⟩ := rt4_use h
          subst ez0
          subst ez1
          subst ez2
          exact re_i hx hb hr hlocks hK hP hD hS er dX8_sheet_40
        · have h := ie_use c6 h
          refine lv_bipush (v := -14) hx hb dX8_sheet_26 (by decide) ?_
          obtain ⟨er, ez0, ez1, ez2⟩ := rt4_use h
          subst ez0
          subst ez1
          subst ez2
          exact re_i hx hb hr hlocks hK hP hD hS er dX8_sheet_28
      · have h := ie_use c5 h
        refine lv_iconst (v := -1) hx hb dX8_sheet_20 (by decide) ?_
        obtain ⟨er, ez0, ez1, ez2⟩ := rt4_use h
        subst ez0
        subst ez1
        subst ez2
        exact re_i hx hb hr hlocks hK hP hD hS er dX8_sheet_21
set_option maxHeartbeats 4000000 in
set_option maxRecDepth 100000 in
theorem kX4_put (l : Launch) (n : Nat) (dC : Nat → ClassId) (dI : Nat → Nat → Nat) (cB cI cJ cZ : ClassId) (a : Nat → Nat) (adK adV : Nat → Nat) (sz : Nat) (ww_latestFault : Int32) (tp_bytes : Nat → Int32) (tp_size : Int32) (rd_fault : Int32) (rd_faultPlace : Int32) (rd_kind : Int32) (rd_start : Int32) (rd_at : Int32) (rd_number : Int32) (dr_letterMarks : Nat → Int32) (dr_names : Nat → Int64) (dr_spelled : Nat → Int32) (dr_rows : Nat → Int64) (dr_alike : Nat → Int32) (dr_near : Nat → Int32) (dr_asks : Nat → Int32) (dr_letters : Int32) (dr_words : Int32) (dr_askCount : Int32) (sh_lanes : Nat → Int32) (sh_sizes : Nat → Int32) (sh_cells : Nat → Int32) (la_xs : Nat → Int32) (la_ys : Nat → Int32) (la_heights : Nat → Int32) (la_ridgeXs : Nat → Int32) (la_ridgeHeights : Nat → Int32) (la_way : Nat → Int32) (la_blurs : Nat → Int32) (la_steps : Nat → Int32) (la_places : Int32) (la_ridges : Int32) (la_wayBlur : Int32) (la_wayLength : Int32) (bk_times : Nat → Int32) (bk_froms : Nat → Int32) (bk_asks : Nat → Int32) (bk_words : Nat → Int32) (bk_firsts : Nat → Int32) (bk_lies : Nat → Int32) (bk_held : Nat → Int32) (bk_size : Int32) (nu_learned : Nat → Int32) (nu_size : Int32) (to_letterMarks : Nat → Int32) (to_names : Nat → Int64) (to_spelled : Nat → Int32) (to_rows : Nat → Int64) (to_alike : Nat → Int32) (to_near : Nat → Int32) (to_asks : Nat → Int32) (to_letters : Int32) (to_words : Int32) (to_askCount : Int32) (x1 : Int32) (x2 : Int32) (x3 : Int32) (z_sh_cells : Nat → Int32) (h : fX4_put n sh_lanes sh_cells x1 x2 x3 = some z_sh_cells) : Met l yX4_put wsX4_put ({ frames := 0, cells := 0, slots := 0, locals := 0 }) (gP (dC, dI) (tyz cB cI cJ cZ) (E_X adK adV) (wX cB cI cJ cZ a (a 35) (a 4) ww_latestFault tp_bytes tp_size rd_fault rd_faultPlace rd_kind rd_start rd_at rd_number dr_letterMarks dr_names dr_spelled dr_rows dr_alike dr_near dr_asks dr_letters dr_words dr_askCount sh_lanes sh_sizes sh_cells la_xs la_ys la_heights la_ridgeXs la_ridgeHeights la_way la_blurs la_steps la_places la_ridges la_wayBlur la_wayLength bk_times bk_froms bk_asks bk_words bk_firsts bk_lies bk_held bk_size nu_learned nu_size to_letterMarks to_names to_spelled to_rows to_alike to_near to_asks to_letters to_words to_askCount) sz [.ref (a 12), .int x1, .int x2, .int x3]) (gV (dC, dI) (tyz cB cI cJ cZ) (wX cB cI cJ cZ a (a 35) (a 4) ww_latestFault tp_bytes tp_size rd_fault rd_faultPlace rd_kind rd_start rd_at rd_number dr_letterMarks dr_names dr_spelled dr_rows dr_alike dr_near dr_asks dr_letters dr_words dr_askCount sh_lanes sh_sizes z_sh_cells la_xs la_ys la_heights la_ridgeXs la_ridgeHeights la_way la_blurs la_steps la_places la_ridges la_wayBlur la_wayLength bk_times bk_froms bk_asks bk_words bk_firsts bk_lies bk_held bk_size nu_learned nu_size to_letterMarks to_names to_spelled to_rows to_alike to_near to_asks to_letters to_words to_askCount) (va_A (wX cB cI cJ cZ a (a 35) (a 4) ww_latestFault tp_bytes tp_size rd_fault rd_faultPlace rd_kind rd_start rd_at rd_number dr_letterMarks dr_names dr_spelled dr_rows dr_alike dr_near dr_asks dr_letters dr_words dr_askCount sh_lanes sh_sizes sh_cells la_xs la_ys la_heights la_ridgeXs la_ridgeHeights la_way la_blurs la_steps la_places la_ridges la_wayBlur la_wayLength bk_times bk_froms bk_asks bk_words bk_firsts bk_lies bk_held bk_size nu_learned nu_size to_letterMarks to_names to_spelled to_rows to_alike to_near to_asks to_letters to_words to_askCount) sz)) 0 0 (va_A (wX cB cI cJ cZ a (a 35) (a 4) ww_latestFault tp_bytes tp_size rd_fault rd_faultPlace rd_kind rd_start rd_at rd_number dr_letterMarks dr_names dr_spelled dr_rows dr_alike dr_near dr_asks dr_letters dr_words dr_askCount sh_lanes sh_sizes sh_cells la_xs la_ys la_heights la_ridgeXs la_ridgeHeights la_way la_blurs la_steps la_places la_ridges la_wayBlur la_wayLength bk_times bk_froms bk_asks bk_words bk_firsts bk_lies bk_held bk_size nu_learned nu_size to_letterMarks to_names to_spelled to_rows to_alike to_near to_asks to_letters to_words to_askCount) sz) := by
  refine Met.ofW (cc := cX4_put) (maxL := 5) (ret := none) (by decide) rfl ?_
  intro p e s m args below meth c s₁ B hml hv
  obtain ⟨rfl, hsz, hP, hK, hD0, hE⟩ := hv
  have hx := B.exec
  have hb := B.bytes
  have hr := B.returns
  have hts := atoms_spec (ws := wsX4_put) B.pre
  have hown : s.vm.findClass RX4 = some m.cls := findClass_of_methodNamed B.named
  have hlocks := B.notSynchronized
  subst hsz
  have hD := hD0.self (sz := s.heap.size)
  have hA : ∀ q : Nat, s.heap.size ≤ q → va_A (wX cB cI cJ cZ a (a 35) (a 4) ww_latestFault tp_bytes tp_size rd_fault rd_faultPlace rd_kind rd_start rd_at rd_number dr_letterMarks dr_names dr_spelled dr_rows dr_alike dr_near dr_asks dr_letters dr_words dr_askCount sh_lanes sh_sizes sh_cells la_xs la_ys la_heights la_ridgeXs la_ridgeHeights la_way la_blurs la_steps la_places la_ridges la_wayBlur la_wayLength bk_times bk_froms bk_asks bk_words bk_firsts bk_lies bk_held bk_size nu_learned nu_size to_letterMarks to_names to_spelled to_rows to_alike to_near to_asks to_letters to_words to_askCount) s.heap.size q := fun q h => Or.inr h
  generalize va_A (wX cB cI cJ cZ a (a 35) (a 4) ww_latestFault tp_bytes tp_size rd_fault rd_faultPlace rd_kind rd_start rd_at rd_number dr_letterMarks dr_names dr_spelled dr_rows dr_alike dr_near dr_asks dr_letters dr_words dr_askCount sh_lanes sh_sizes sh_cells la_xs la_ys la_heights la_ridgeXs la_ridgeHeights la_way la_blurs la_steps la_places la_ridges la_wayBlur la_wayLength bk_times bk_froms bk_asks bk_words bk_firsts bk_lies bk_held bk_size nu_learned nu_size to_letterMarks to_names to_spelled to_rows to_alike to_near to_asks to_letters to_words to_askCount) s.heap.size = A at hD hA hE ⊢
  have hS : va_S A s.heap s.heap [] := va_S.rf
  have C0 : cxt cX4_put none 5 RX4 wsX4_put (dC, dI) (tyz cB cI cJ cZ) (E_X adK adV) A p s m ([.ref (a 12), .int x1, .int x2, .int x3] : List Value).toArray meth c := ⟨hx, hb, hr, hml, hown, hts, hlocks, hK, hA, hE⟩
  have hl := lv_entry ([.ref (a 12), .int x1, .int x2, .int x3]) (n := 5) (Nat.le_of_ble_eq_true rfl)
  rw [lg_entry_eq]
  generalize (lg_sl ([.ref (a 12), .int x1, .int x2, .int x3]) ++ List.replicate (5 - (lg_sl ([.ref (a 12), .int x1, .int x2, .int x3])).length) Slot.unset).toArray = ls at hl ⊢
  have hl : lv_has ls 5 [(0, .ref (a 12)), (1, .int x1), (2, .int x2), (3, .int x3)] := hl
  have hw0 := hts (.fieldLink RX4 11 "WhistledWords$Sheets" "lanes" "[I") (by decide +kernel)
  have hw1 := hts (.fieldLink RX4 24 "WhistledWords$Sheets" "cells" "[I") (by decide +kernel)
  have hnX4 : ∀ w ∈ u_ws RX4 TX4 3, w ∈ wsX4_put := fun _ h => List.mem_cons_of_mem _ (List.mem_append_right _ h)
  unfold fX4_put at h
  refine lv_iload_n hx hb dX4_put_0 rfl (lv_at hl 3 rfl) ?_
  refine lv_istore (lv' := [(4, .int x3), (0, .ref (a 12)), (1, .int x1), (2, .int x2), (3, .int x3)]) hx hb dX4_put_1 hl (by decide) rfl (fun ls hl => ?_)
  refine lv_aload_n hx hb dX4_put_3 rfl (lv_at hl 1 rfl) ?_
  refine gX_sheets_lanes hx hb hts hnX4 hown hK hP hw0 dX4_put_4 ?_
  refine lv_iload_n hx hb dX4_put_7 rfl (lv_at hl 2 rfl) ?_
  obtain ⟨hiv1, h⟩ := ar_use h
  refine lX_sheets_lanes hx hb hK hP hiv1 dX4_put_8 ?_
  refine lv_topi (fun v1 ev1 => ?_)
  have h := h v1 ev1
  refine lv_if_ne (tgt := 19) hx hb dX4_put_9 (by decide) (fun c2 => ?_) (fun c2 => ?_)
  · have h := ie_use c2 h
    refine lv_aload_n hx hb dX4_put_19 rfl (lv_at hl 1 rfl) ?_
    refine gX_sheets_lanes hx hb hts hnX4 hown hK hP hw0 dX4_put_20 ?_
    refine lv_iload_n hx hb dX4_put_23 rfl (lv_at hl 2 rfl) ?_
    obtain ⟨hiv3, h⟩ := ar_use h
    refine lX_sheets_lanes hx hb hK hP hiv3 dX4_put_24 ?_
    refine lv_topi (fun v3 ev3 => ?_)
    have h := h v3 ev3
    refine lv_iconst (v := 1) hx hb dX4_put_25 (by decide) ?_
    refine lv_icmp_ne (tgt := 33) hx hb dX4_put_26 (by decide) (fun c4 => ?_) (fun c4 => ?_)
    · have h := ie_use c4 h
      refine lv_aload_n hx hb dX4_put_33 rfl (lv_at hl 1 rfl) ?_
      refine gX_sheets_cells hx hb hts hnX4 hown hK hP hw1 dX4_put_34 ?_
      refine lv_iload_n hx hb dX4_put_37 rfl (lv_at hl 2 rfl) ?_
      refine lv_bipush (v := 60) hx hb dX4_put_38 (by decide) ?_
      refine lv_imul hx hb dX4_put_40 ?_
      refine lv_iload_n hx hb dX4_put_41 rfl (lv_at hl 3 rfl) ?_
      refine lv_iadd hx hb dX4_put_42 ?_
      refine lv_iload hx hb dX4_put_43 (lv_at hl 0 rfl) ?_
      obtain ⟨hif5, f5, ef5, h⟩ := aw_use h
      refine sX_sheets_cells hx hb hK hP hD hS hif5 ef5 dX4_put_45 (fun H locs hP hD hS => ?_)
      obtain ez0 := rt1_use h
      subst ez0
      exact re_v hx hb hr hlocks hK hP hD hS dX4_put_46
    · have h := it_use c4 h
      refine lv_iload_n hx hb dX4_put_29 rfl (lv_at hl 4 rfl) ?_
      refine lv_i2s hx hb dX4_put_30 rfl ?_
      refine lv_topi (fun v6 ev6 => ?_)
      have h := nm_use ev6 h
      refine lv_istore (lv' := [(4, .int v6), (0, .ref (a 12)), (1, .int x1), (2, .int x2), (3, .int x3)]) hx hb dX4_put_31 hl (by decide) rfl (fun ls hl => ?_)
      refine lv_aload_n hx hb dX4_put_33 rfl (lv_at hl 1 rfl) ?_
      refine gX_sheets_cells hx hb hts hnX4 hown hK hP hw1 dX4_put_34 ?_
      refine lv_iload_n hx hb dX4_put_37 rfl (lv_at hl 2 rfl) ?_
      refine lv_bipush (v := 60) hx hb dX4_put_38 (by decide) ?_
      refine lv_imul hx hb dX4_put_40 ?_
      refine lv_iload_n hx hb dX4_put_41 rfl (lv_at hl 3 rfl) ?_
      refine lv_iadd hx hb dX4_put_42 ?_
      refine lv_iload hx hb dX4_put_43 (lv_at hl 0 rfl) ?_
      obtain ⟨hif7, f7, ef7, h⟩ := aw_use h
      refine sX_sheets_cells hx hb hK hP hD hS hif7 ef7 dX4_put_45 (fun H locs hP hD hS => ?_)
      obtain ez0 := rt1_use h
      subst ez0
      exact re_v hx hb hr hlocks hK hP hD hS dX4_put_46
  · have h := it_use c2 h
    refine lv_iload_n hx hb dX4_put_12 rfl (lv_at hl 4 rfl) ?_
    refine lv_i2b hx hb dX4_put_13 rfl ?_
    refine lv_topi (fun v8 ev8 => ?_)
    have h := nm_use ev8 h
    refine lv_istore (lv' := [(4, .int v8), (0, .ref (a 12)), (1, .int x1), (2, .int x2), (3, .int x3)]) hx hb dX4_put_14 hl (by decide) rfl (fun ls hl => ?_)
    refine lv_goto (tgt := 33) hx hb dX4_put_16 (by decide) ?_
    refine lv_aload_n hx hb dX4_put_33 rfl (lv_at hl 1 rfl) ?_
    refine gX_sheets_cells hx hb hts hnX4 hown hK hP hw1 dX4_put_34 ?_
    refine lv_iload_n hx hb dX4_put_37 rfl (lv_at hl 2 rfl) ?_
    refine lv_bipush (v := 60) hx hb dX4_put_38 (by decide) ?_
    refine lv_imul hx hb dX4_put_40 ?_
    refine lv_iload_n hx hb dX4_put_41 rfl (lv_at hl 3 rfl) ?_
    refine lv_iadd hx hb dX4_put_42 ?_
    refine lv_iload hx hb dX4_put_43 (lv_at hl 0 rfl) ?_
    obtain ⟨hif9, f9, ef9, h⟩ := aw_use h
    refine sX_sheets_cells hx hb hK hP hD hS hif9 ef9 dX4_put_45 (fun H locs hP hD hS => ?_)
    obtain ez0 := rt1_use h
    subst ez0
    exact re_v hx hb hr hlocks hK hP hD hS dX4_put_46
set_option maxHeartbeats 4000000 in
set_option maxRecDepth 100000 in
theorem kX8_lay (l : Launch) (n : Nat) (dC : Nat → ClassId) (dI : Nat → Nat → Nat) (cB cI cJ cZ : ClassId) (a : Nat → Nat) (adK adV : Nat → Nat) (sz : Nat) (ww_latestFault : Int32) (tp_bytes : Nat → Int32) (tp_size : Int32) (rd_fault : Int32) (rd_faultPlace : Int32) (rd_kind : Int32) (rd_start : Int32) (rd_at : Int32) (rd_number : Int32) (dr_letterMarks : Nat → Int32) (dr_names : Nat → Int64) (dr_spelled : Nat → Int32) (dr_rows : Nat → Int64) (dr_alike : Nat → Int32) (dr_near : Nat → Int32) (dr_asks : Nat → Int32) (dr_letters : Int32) (dr_words : Int32) (dr_askCount : Int32) (sh_lanes : Nat → Int32) (sh_sizes : Nat → Int32) (sh_cells : Nat → Int32) (la_xs : Nat → Int32) (la_ys : Nat → Int32) (la_heights : Nat → Int32) (la_ridgeXs : Nat → Int32) (la_ridgeHeights : Nat → Int32) (la_way : Nat → Int32) (la_blurs : Nat → Int32) (la_steps : Nat → Int32) (la_places : Int32) (la_ridges : Int32) (la_wayBlur : Int32) (la_wayLength : Int32) (bk_times : Nat → Int32) (bk_froms : Nat → Int32) (bk_asks : Nat → Int32) (bk_words : Nat → Int32) (bk_firsts : Nat → Int32) (bk_lies : Nat → Int32) (bk_held : Nat → Int32) (bk_size : Int32) (nu_learned : Nat → Int32) (nu_size : Int32) (to_letterMarks : Nat → Int32) (to_names : Nat → Int64) (to_spelled : Nat → Int32) (to_rows : Nat → Int64) (to_alike : Nat → Int32) (to_near : Nat → Int32) (to_asks : Nat → Int32) (to_letters : Int32) (to_words : Int32) (to_askCount : Int32) (x1 : Int32) (x2 : Int32) (x3 : Int32) (r0 : Int32) (z_sh_cells : Nat → Int32) (h : fX8_lay n sh_lanes sh_sizes sh_cells x1 x2 x3 = some (r0, z_sh_cells)) : Met l yX8_lay wsX8_lay ({ frames := 1, cells := 0, slots := 0, locals := 25 }) (gP (dC, dI) (tyz cB cI cJ cZ) (E_X adK adV) (wX cB cI cJ cZ a (a 35) (a 4) ww_latestFault tp_bytes tp_size rd_fault rd_faultPlace rd_kind rd_start rd_at rd_number dr_letterMarks dr_names dr_spelled dr_rows dr_alike dr_near dr_asks dr_letters dr_words dr_askCount sh_lanes sh_sizes sh_cells la_xs la_ys la_heights la_ridgeXs la_ridgeHeights la_way la_blurs la_steps la_places la_ridges la_wayBlur la_wayLength bk_times bk_froms bk_asks bk_words bk_firsts bk_lies bk_held bk_size nu_learned nu_size to_letterMarks to_names to_spelled to_rows to_alike to_near to_asks to_letters to_words to_askCount) sz [.ref (a 0), .int x1, .int x2, .int x3]) (gI (dC, dI) (tyz cB cI cJ cZ) (wX cB cI cJ cZ a (a 35) (a 4) ww_latestFault tp_bytes tp_size rd_fault rd_faultPlace rd_kind rd_start rd_at rd_number dr_letterMarks dr_names dr_spelled dr_rows dr_alike dr_near dr_asks dr_letters dr_words dr_askCount sh_lanes sh_sizes z_sh_cells la_xs la_ys la_heights la_ridgeXs la_ridgeHeights la_way la_blurs la_steps la_places la_ridges la_wayBlur la_wayLength bk_times bk_froms bk_asks bk_words bk_firsts bk_lies bk_held bk_size nu_learned nu_size to_letterMarks to_names to_spelled to_rows to_alike to_near to_asks to_letters to_words to_askCount) (va_A (wX cB cI cJ cZ a (a 35) (a 4) ww_latestFault tp_bytes tp_size rd_fault rd_faultPlace rd_kind rd_start rd_at rd_number dr_letterMarks dr_names dr_spelled dr_rows dr_alike dr_near dr_asks dr_letters dr_words dr_askCount sh_lanes sh_sizes sh_cells la_xs la_ys la_heights la_ridgeXs la_ridgeHeights la_way la_blurs la_steps la_places la_ridges la_wayBlur la_wayLength bk_times bk_froms bk_asks bk_words bk_firsts bk_lies bk_held bk_size nu_learned nu_size to_letterMarks to_names to_spelled to_rows to_alike to_near to_asks to_letters to_words to_askCount) sz) r0) 0 0 (va_A (wX cB cI cJ cZ a (a 35) (a 4) ww_latestFault tp_bytes tp_size rd_fault rd_faultPlace rd_kind rd_start rd_at rd_number dr_letterMarks dr_names dr_spelled dr_rows dr_alike dr_near dr_asks dr_letters dr_words dr_askCount sh_lanes sh_sizes sh_cells la_xs la_ys la_heights la_ridgeXs la_ridgeHeights la_way la_blurs la_steps la_places la_ridges la_wayBlur la_wayLength bk_times bk_froms bk_asks bk_words bk_firsts bk_lies bk_held bk_size nu_learned nu_size to_letterMarks to_names to_spelled to_rows to_alike to_near to_asks to_letters to_words to_askCount) sz) := by
  refine Met.ofW (cc := cX8_lay) (maxL := 5) (ret := (some .int)) (by decide) rfl ?_
  intro p e s m args below meth c s₁ B hml hv
  obtain ⟨rfl, hsz, hP, hK, hD0, hE⟩ := hv
  have hx := B.exec
  have hb := B.bytes
  have hr := B.returns
  have hts := atoms_spec (ws := wsX8_lay) B.pre
  have hown : s.vm.findClass RX8 = some m.cls := findClass_of_methodNamed B.named
  have hlocks := B.notSynchronized
  subst hsz
  have hD := hD0.self (sz := s.heap.size)
  have hA : ∀ q : Nat, s.heap.size ≤ q → va_A (wX cB cI cJ cZ a (a 35) (a 4) ww_latestFault tp_bytes tp_size rd_fault rd_faultPlace rd_kind rd_start rd_at rd_number dr_letterMarks dr_names dr_spelled dr_rows dr_alike dr_near dr_asks dr_letters dr_words dr_askCount sh_lanes sh_sizes sh_cells la_xs la_ys la_heights la_ridgeXs la_ridgeHeights la_way la_blurs la_steps la_places la_ridges la_wayBlur la_wayLength bk_times bk_froms bk_asks bk_words bk_firsts bk_lies bk_held bk_size nu_learned nu_size to_letterMarks to_names to_spelled to_rows to_alike to_near to_asks to_letters to_words to_askCount) s.heap.size q := fun q h => Or.inr h
  generalize va_A (wX cB cI cJ cZ a (a 35) (a 4) ww_latestFault tp_bytes tp_size rd_fault rd_faultPlace rd_kind rd_start rd_at rd_number dr_letterMarks dr_names dr_spelled dr_rows dr_alike dr_near dr_asks dr_letters dr_words dr_askCount sh_lanes sh_sizes sh_cells la_xs la_ys la_heights la_ridgeXs la_ridgeHeights la_way la_blurs la_steps la_places la_ridges la_wayBlur la_wayLength bk_times bk_froms bk_asks bk_words bk_firsts bk_lies bk_held bk_size nu_learned nu_size to_letterMarks to_names to_spelled to_rows to_alike to_near to_asks to_letters to_words to_askCount) s.heap.size = A at hD hA hE ⊢
  have hS : va_S A s.heap s.heap [] := va_S.rf
  have C0 : cxt cX8_lay (some .int) 5 RX8 wsX8_lay (dC, dI) (tyz cB cI cJ cZ) (E_X adK adV) A p s m ([.ref (a 0), .int x1, .int x2, .int x3] : List Value).toArray meth c := ⟨hx, hb, hr, hml, hown, hts, hlocks, hK, hA, hE⟩
  have hl := lv_entry ([.ref (a 0), .int x1, .int x2, .int x3]) (n := 5) (Nat.le_of_ble_eq_true rfl)
  rw [lg_entry_eq]
  generalize (lg_sl ([.ref (a 0), .int x1, .int x2, .int x3]) ++ List.replicate (5 - (lg_sl ([.ref (a 0), .int x1, .int x2, .int x3])).length) Slot.unset).toArray = ls at hl ⊢
  have hl : lv_has ls 5 [(0, .ref (a 0)), (1, .int x1), (2, .int x2), (3, .int x3)] := hl
  have hw0 := hts (.fieldLink RX8 28 "WhistledWords" "sheets" "LWhistledWords$Sheets;") (by decide +kernel)
  have hw1 := hts (.fieldLink RX8 215 "WhistledWords$Sheets" "lanes" "[I") (by decide +kernel)
  have hnX8 : ∀ w ∈ u_ws RX8 TX8 8, w ∈ wsX8_lay := fun _ h => List.mem_cons_of_mem _ (List.mem_append_left _ (List.mem_append_right _ h))
  have hnX4 : ∀ w ∈ u_ws RX4 TX4 3, w ∈ wsX8_lay := fun _ h => List.mem_cons_of_mem _ (List.mem_append_right _ h)
  unfold fX8_lay at h
  refine lv_iload_n hx hb dX8_lay_0 rfl (lv_at hl 1 rfl) ?_
  obtain ⟨v1, hc, h⟩ := bd1_use h
  refine cs_i (As := [.int x1]) (rest := []) ⟨hx, hb, hml, hown, hts⟩ (kX4_isSheet l n x1 v1 hc) (va_cwS 1 hts gX8_lay_X4_isSheet rfl rfl rfl (by decide +kernel) ⟨Nat.le_of_ble_eq_true rfl, Nat.le_of_ble_eq_true rfl⟩) hP hS rfl hl.1 rfl (Nat.le_of_ble_eq_true rfl) dX8_lay_1 ⟨Nat.zero_le _, Nat.zero_le _⟩ (fun H locs hP hS => ?_)
  refine lv_if_ne (tgt := 9) hx hb dX8_lay_4 (by decide) (fun c2 => ?_) (fun c2 => ?_)
  · have h := ie_use c2 h
    refine lv_aload_n hx hb dX8_lay_9 rfl (lv_at hl 0 rfl) ?_
    refine gX_ww_sheets hx hb hts hnX8 hown hK hP hw0 dX8_lay_10 ?_
    refine lv_iload_n hx hb dX8_lay_13 rfl (lv_at hl 1 rfl) ?_
    refine lv_aload_n hx hb dX8_lay_14 rfl (lv_at hl 0 rfl) ?_
    refine gX_ww_sheets hx hb hts hnX8 hown hK hP hw0 dX8_lay_15 ?_
    refine gX_sheets_lanes hx hb hts hnX4 hown hK hP hw1 dX8_lay_18 ?_
    refine lv_iload_n hx hb dX8_lay_21 rfl (lv_at hl 1 rfl) ?_
    obtain ⟨hiv3, h⟩ := ar_use h
    refine lX_sheets_lanes hx hb hK hP hiv3 dX8_lay_22 ?_
    refine lv_topi (fun v3 ev3 => ?_)
    have h := h v3 ev3
    refine lv_iload_n hx hb dX8_lay_23 rfl (lv_at hl 2 rfl) ?_
    refine lv_iconst (v := 1) hx hb dX8_lay_24 (by decide) ?_
    obtain ⟨v4, hc, h⟩ := bd1_use h
    refine cv_i (As := [.int x1, .int v3, .int x2, .int (1 : Int32)]) (rest := []) ⟨hx, hb, hml, hown, hts⟩ (kX4_faultOfRow l n dC dI cB cI cJ cZ a adK adV _ ww_latestFault tp_bytes tp_size rd_fault rd_faultPlace rd_kind rd_start rd_at rd_number dr_letterMarks dr_names dr_spelled dr_rows dr_alike dr_near dr_asks dr_letters dr_words dr_askCount sh_lanes sh_sizes sh_cells la_xs la_ys la_heights la_ridgeXs la_ridgeHeights la_way la_blurs la_steps la_places la_ridges la_wayBlur la_wayLength bk_times bk_froms bk_asks bk_words bk_firsts bk_lies bk_held bk_size nu_learned nu_size to_letterMarks to_names to_spelled to_rows to_alike to_near to_asks to_letters to_words to_askCount x1 v3 x2 (1 : Int32) v4 hc) (cwV 4 hts gX8_lay_X4_faultOfRow rfl rfl rfl (by decide +kernel) ⟨Nat.le_of_ble_eq_true rfl, Nat.le_of_ble_eq_true rfl⟩) EB_X hE hK hP hD hS hA 12 (ci := 3) rfl rfl rfl rfl hl.1 rfl (Nat.le_of_ble_eq_true rfl) dX8_lay_25 ⟨Nat.zero_le _, Nat.zero_le _⟩ (fun H locs hP hD hS => ?_)
    refine lv_istore (lv' := [(4, .int v4), (0, .ref (a 0)), (1, .int x1), (2, .int x2), (3, .int x3)]) hx hb dX8_lay_28 hl (by decide) rfl (fun ls hl => ?_)
    refine lv_iload hx hb dX8_lay_30 (lv_at hl 0 rfl) ?_
    refine lv_if_eq (tgt := 41) hx hb dX8_lay_32 (by decide) (fun c5 => ?_) (fun c5 => ?_)
    · have h := it_use c5 h
      refine lv_aload_n hx hb dX8_lay_41 rfl (lv_at hl 1 rfl) ?_
      refine gX_ww_sheets hx hb hts hnX8 hown hK hP hw0 dX8_lay_42 ?_
      refine lv_iload_n hx hb dX8_lay_45 rfl (lv_at hl 2 rfl) ?_
      refine lv_iload_n hx hb dX8_lay_46 rfl (lv_at hl 3 rfl) ?_
      refine lv_iload_n hx hb dX8_lay_47 rfl (lv_at hl 4 rfl) ?_
      obtain ⟨f6, hc, h⟩ := bd1_use h
      refine cv_v (As := [.int x1, .int x2, .int x3]) (rest := []) ⟨hx, hb, hml, hown, hts⟩ (kX4_put l n dC dI cB cI cJ cZ a adK adV _ ww_latestFault tp_bytes tp_size rd_fault rd_faultPlace rd_kind rd_start rd_at rd_number dr_letterMarks dr_names dr_spelled dr_rows dr_alike dr_near dr_asks dr_letters dr_words dr_askCount sh_lanes sh_sizes sh_cells la_xs la_ys la_heights la_ridgeXs la_ridgeHeights la_way la_blurs la_steps la_places la_ridges la_wayBlur la_wayLength bk_times bk_froms bk_asks bk_words bk_firsts bk_lies bk_held bk_size nu_learned nu_size to_letterMarks to_names to_spelled to_rows to_alike to_near to_asks to_letters to_words to_askCount x1 x2 x3 f6 hc) (cwV 3 hts gX8_lay_X4_put rfl rfl rfl (by decide +kernel) ⟨Nat.le_of_ble_eq_true rfl, Nat.le_of_ble_eq_true rfl⟩) EB_X hE hK hP hD hS hA 12 (ci := 3) rfl rfl rfl rfl hl.1 rfl (Nat.le_of_ble_eq_true rfl) dX8_lay_48 ⟨Nat.zero_le _, Nat.zero_le _⟩ (fun H locs hP hD hS => ?_)
      refine lv_iconst (v := 1) hx hb dX8_lay_51 (by decide) ?_
      obtain ⟨er, ez0⟩ := rt2_use h
      subst ez0
      exact re_i hx hb hr hlocks hK hP hD hS er dX8_lay_52
    · have h := ie_use c5 h
      refine lv_bipush (v := -10) hx hb dX8_lay_35 (by decide) ?_
      refine lv_iload hx hb dX8_lay_37 (lv_at hl 0 rfl) ?_
      refine lv_isub hx hb dX8_lay_39 ?_
      obtain ⟨er, ez0⟩ := rt2_use h
      subst ez0
      exact re_i hx hb hr hlocks hK hP hD hS er dX8_lay_40
  · have h := it_use c2 h
    refine lv_iconst (v := -1) hx hb dX8_lay_7 (by decide) ?_
    obtain ⟨er, ez0⟩ := rt2_use h
    subst ez0
    exact re_i hx hb hr hlocks hK hP hD hS er dX8_lay_8
set_option maxHeartbeats 4000000 in
set_option maxRecDepth 100000 in
theorem kX8_isHour (l : Launch) (n : Nat) (x0 : Int32) (r0 : Int32) (h : fX8_isHour n  x0 = some r0) : Met l yX8_isHour wsX8_isHour ({ frames := 0, cells := 0, slots := 0, locals := 0 }) (pP [.int x0]) (pI r0) 0 0 no_A := by
  refine Met.ofW (cc := cX8_isHour) (maxL := 1) (ret := (some .boolean)) (by decide) rfl ?_
  intro p e s m args below meth c s₁ B hml hv
  obtain ⟨rfl, -⟩ := hv
  have hx := B.exec
  have hb := B.bytes
  have hr := B.returns
  have hts := atoms_spec (ws := wsX8_isHour) B.pre
  have hown : s.vm.findClass RX8 = some m.cls := findClass_of_methodNamed B.named
  have hlocks := B.notSynchronized
  have hS : va_S no_A s.heap s.heap [] := va_S.rf
  have C0 : cxp cX8_isHour (some .boolean) 1 RX8 wsX8_isHour p s m ([.int x0] : List Value).toArray meth c := ⟨hx, hb, hr, hml, hown, hts, hlocks⟩
  have hl := lv_entry ([.int x0]) (n := 1) (Nat.le_of_ble_eq_true rfl)
  rw [lg_entry_eq]
  generalize (lg_sl ([.int x0]) ++ List.replicate (1 - (lg_sl ([.int x0])).length) Slot.unset).toArray = ls at hl ⊢
  have hl : lv_has ls 1 [(0, .int x0)] := hl
  unfold fX8_isHour at h
  refine lv_iload_n hx hb dX8_isHour_0 rfl (lv_at hl 0 rfl) ?_
  refine lv_if_lt (tgt := 14) hx hb dX8_isHour_1 (by decide) (fun c1 => ?_) (fun c1 => ?_)
  · have h := it_use c1 h
    refine lv_iconst (v := 0) hx hb dX8_isHour_14 (by decide) ?_
    obtain er := rt1_use h
    exact rp_z hx hb hr hlocks hS (Or.inl rfl) er dX8_isHour_15
  · have h := ie_use c1 h
    refine lv_iload_n hx hb dX8_isHour_4 rfl (lv_at hl 0 rfl) ?_
    refine lv_bipush (v := 24) hx hb dX8_isHour_5 (by decide) ?_
    refine lv_icmp_ge (tgt := 14) hx hb dX8_isHour_7 (by decide) (fun c2 => ?_) (fun c2 => ?_)
    · have h := it_use c2 h
      refine lv_iconst (v := 0) hx hb dX8_isHour_14 (by decide) ?_
      obtain er := rt1_use h
      exact rp_z hx hb hr hlocks hS (Or.inl rfl) er dX8_isHour_15
    · have h := ie_use c2 h
      refine lv_iconst (v := 1) hx hb dX8_isHour_10 (by decide) ?_
      refine lv_goto (tgt := 15) hx hb dX8_isHour_11 (by decide) ?_
      obtain er := rt1_use h
      exact rp_z hx hb hr hlocks hS (Or.inr rfl) er dX8_isHour_15
set_option maxHeartbeats 4000000 in
set_option maxRecDepth 100000 in
theorem kX4_windAt (l : Launch) (n : Nat) (dC : Nat → ClassId) (dI : Nat → Nat → Nat) (cB cI cJ cZ : ClassId) (a : Nat → Nat) (adK adV : Nat → Nat) (sz : Nat) (ww_latestFault : Int32) (tp_bytes : Nat → Int32) (tp_size : Int32) (rd_fault : Int32) (rd_faultPlace : Int32) (rd_kind : Int32) (rd_start : Int32) (rd_at : Int32) (rd_number : Int32) (dr_letterMarks : Nat → Int32) (dr_names : Nat → Int64) (dr_spelled : Nat → Int32) (dr_rows : Nat → Int64) (dr_alike : Nat → Int32) (dr_near : Nat → Int32) (dr_asks : Nat → Int32) (dr_letters : Int32) (dr_words : Int32) (dr_askCount : Int32) (sh_lanes : Nat → Int32) (sh_sizes : Nat → Int32) (sh_cells : Nat → Int32) (la_xs : Nat → Int32) (la_ys : Nat → Int32) (la_heights : Nat → Int32) (la_ridgeXs : Nat → Int32) (la_ridgeHeights : Nat → Int32) (la_way : Nat → Int32) (la_blurs : Nat → Int32) (la_steps : Nat → Int32) (la_places : Int32) (la_ridges : Int32) (la_wayBlur : Int32) (la_wayLength : Int32) (bk_times : Nat → Int32) (bk_froms : Nat → Int32) (bk_asks : Nat → Int32) (bk_words : Nat → Int32) (bk_firsts : Nat → Int32) (bk_lies : Nat → Int32) (bk_held : Nat → Int32) (bk_size : Int32) (nu_learned : Nat → Int32) (nu_size : Int32) (to_letterMarks : Nat → Int32) (to_names : Nat → Int64) (to_spelled : Nat → Int32) (to_rows : Nat → Int64) (to_alike : Nat → Int32) (to_near : Nat → Int32) (to_asks : Nat → Int32) (to_letters : Int32) (to_words : Int32) (to_askCount : Int32) (x1 : Int32) (r0 : Int32) (h : fX4_windAt n sh_lanes sh_sizes sh_cells x1 = some r0) : Met l yX4_windAt wsX4_windAt ({ frames := 1, cells := 0, slots := 0, locals := 25 }) (gP (dC, dI) (tyz cB cI cJ cZ) (E_X adK adV) (wX cB cI cJ cZ a (a 35) (a 4) ww_latestFault tp_bytes tp_size rd_fault rd_faultPlace rd_kind rd_start rd_at rd_number dr_letterMarks dr_names dr_spelled dr_rows dr_alike dr_near dr_asks dr_letters dr_words dr_askCount sh_lanes sh_sizes sh_cells la_xs la_ys la_heights la_ridgeXs la_ridgeHeights la_way la_blurs la_steps la_places la_ridges la_wayBlur la_wayLength bk_times bk_froms bk_asks bk_words bk_firsts bk_lies bk_held bk_size nu_learned nu_size to_letterMarks to_names to_spelled to_rows to_alike to_near to_asks to_letters to_words to_askCount) sz [.ref (a 12), .int x1]) (gI (dC, dI) (tyz cB cI cJ cZ) (wX cB cI cJ cZ a (a 35) (a 4) ww_latestFault tp_bytes tp_size rd_fault rd_faultPlace rd_kind rd_start rd_at rd_number dr_letterMarks dr_names dr_spelled dr_rows dr_alike dr_near dr_asks dr_letters dr_words dr_askCount sh_lanes sh_sizes sh_cells la_xs la_ys la_heights la_ridgeXs la_ridgeHeights la_way la_blurs la_steps la_places la_ridges la_wayBlur la_wayLength bk_times bk_froms bk_asks bk_words bk_firsts bk_lies bk_held bk_size nu_learned nu_size to_letterMarks to_names to_spelled to_rows to_alike to_near to_asks to_letters to_words to_askCount) (va_A (wX cB cI cJ cZ a (a 35) (a 4) ww_latestFault tp_bytes tp_size rd_fault rd_faultPlace rd_kind rd_start rd_at rd_number dr_letterMarks dr_names dr_spelled dr_rows dr_alike dr_near dr_asks dr_letters dr_words dr_askCount sh_lanes sh_sizes sh_cells la_xs la_ys la_heights la_ridgeXs la_ridgeHeights la_way la_blurs la_steps la_places la_ridges la_wayBlur la_wayLength bk_times bk_froms bk_asks bk_words bk_firsts bk_lies bk_held bk_size nu_learned nu_size to_letterMarks to_names to_spelled to_rows to_alike to_near to_asks to_letters to_words to_askCount) sz) r0) 0 0 (va_A (wX cB cI cJ cZ a (a 35) (a 4) ww_latestFault tp_bytes tp_size rd_fault rd_faultPlace rd_kind rd_start rd_at rd_number dr_letterMarks dr_names dr_spelled dr_rows dr_alike dr_near dr_asks dr_letters dr_words dr_askCount sh_lanes sh_sizes sh_cells la_xs la_ys la_heights la_ridgeXs la_ridgeHeights la_way la_blurs la_steps la_places la_ridges la_wayBlur la_wayLength bk_times bk_froms bk_asks bk_words bk_firsts bk_lies bk_held bk_size nu_learned nu_size to_letterMarks to_names to_spelled to_rows to_alike to_near to_asks to_letters to_words to_askCount) sz) := by
  refine Met.ofW (cc := cX4_windAt) (maxL := 2) (ret := (some .int)) (by decide) rfl ?_
  intro p e s m args below meth c s₁ B hml hv
  obtain ⟨rfl, hsz, hP, hK, hD0, hE⟩ := hv
  have hx := B.exec
  have hb := B.bytes
  have hr := B.returns
  have hts := atoms_spec (ws := wsX4_windAt) B.pre
  have hown : s.vm.findClass RX4 = some m.cls := findClass_of_methodNamed B.named
  have hlocks := B.notSynchronized
  subst hsz
  have hD := hD0.self (sz := s.heap.size)
  have hA : ∀ q : Nat, s.heap.size ≤ q → va_A (wX cB cI cJ cZ a (a 35) (a 4) ww_latestFault tp_bytes tp_size rd_fault rd_faultPlace rd_kind rd_start rd_at rd_number dr_letterMarks dr_names dr_spelled dr_rows dr_alike dr_near dr_asks dr_letters dr_words dr_askCount sh_lanes sh_sizes sh_cells la_xs la_ys la_heights la_ridgeXs la_ridgeHeights la_way la_blurs la_steps la_places la_ridges la_wayBlur la_wayLength bk_times bk_froms bk_asks bk_words bk_firsts bk_lies bk_held bk_size nu_learned nu_size to_letterMarks to_names to_spelled to_rows to_alike to_near to_asks to_letters to_words to_askCount) s.heap.size q := fun q h => Or.inr h
  generalize va_A (wX cB cI cJ cZ a (a 35) (a 4) ww_latestFault tp_bytes tp_size rd_fault rd_faultPlace rd_kind rd_start rd_at rd_number dr_letterMarks dr_names dr_spelled dr_rows dr_alike dr_near dr_asks dr_letters dr_words dr_askCount sh_lanes sh_sizes sh_cells la_xs la_ys la_heights la_ridgeXs la_ridgeHeights la_way la_blurs la_steps la_places la_ridges la_wayBlur la_wayLength bk_times bk_froms bk_asks bk_words bk_firsts bk_lies bk_held bk_size nu_learned nu_size to_letterMarks to_names to_spelled to_rows to_alike to_near to_asks to_letters to_words to_askCount) s.heap.size = A at hD hA hE ⊢
  have hS : va_S A s.heap s.heap [] := va_S.rf
  have C0 : cxt cX4_windAt (some .int) 2 RX4 wsX4_windAt (dC, dI) (tyz cB cI cJ cZ) (E_X adK adV) A p s m ([.ref (a 12), .int x1] : List Value).toArray meth c := ⟨hx, hb, hr, hml, hown, hts, hlocks, hK, hA, hE⟩
  have hl := lv_entry ([.ref (a 12), .int x1]) (n := 2) (Nat.le_of_ble_eq_true rfl)
  rw [lg_entry_eq]
  generalize (lg_sl ([.ref (a 12), .int x1]) ++ List.replicate (2 - (lg_sl ([.ref (a 12), .int x1])).length) Slot.unset).toArray = ls at hl ⊢
  have hl : lv_has ls 2 [(0, .ref (a 12)), (1, .int x1)] := hl
  have hw0 := hts (.methodLink RX4 35 Lib.Math.min.name) (by decide +kernel)
  have hw1 := hts (.static Lib.Math.min.name) (by decide +kernel)
  have hw2 := hts (.initialized "java/lang/Math") (by decide +kernel)
  have hw3 := hts (.code Lib.Math.min.name Lib.Math.min.code 2 (some .int)) (by decide +kernel)
  have hw4 := hts (.methodLink RX4 40 Lib.Math.max.name) (by decide +kernel)
  have hw5 := hts (.static Lib.Math.max.name) (by decide +kernel)
  have hw6 := hts (.code Lib.Math.max.name Lib.Math.max.code 2 (some .int)) (by decide +kernel)
  unfold fX4_windAt at h
  refine lv_aload_n hx hb dX4_windAt_0 rfl (lv_at hl 0 rfl) ?_
  refine lv_iconst (v := 0) hx hb dX4_windAt_1 (by decide) ?_
  refine lv_iconst (v := 0) hx hb dX4_windAt_2 (by decide) ?_
  refine lv_iload_n hx hb dX4_windAt_3 rfl (lv_at hl 1 rfl) ?_
  refine lv_iconst (v := 1) hx hb dX4_windAt_4 (by decide) ?_
  obtain ⟨v1, hc, h⟩ := bd1_use h
  refine cv_i (As := [.int (0 : Int32), .int (0 : Int32), .int x1, .int (1 : Int32)]) (rest := []) ⟨hx, hb, hml, hown, hts⟩ (kX4_faultOfRow l n dC dI cB cI cJ cZ a adK adV _ ww_latestFault tp_bytes tp_size rd_fault rd_faultPlace rd_kind rd_start rd_at rd_number dr_letterMarks dr_names dr_spelled dr_rows dr_alike dr_near dr_asks dr_letters dr_words dr_askCount sh_lanes sh_sizes sh_cells la_xs la_ys la_heights la_ridgeXs la_ridgeHeights la_way la_blurs la_steps la_places la_ridges la_wayBlur la_wayLength bk_times bk_froms bk_asks bk_words bk_firsts bk_lies bk_held bk_size nu_learned nu_size to_letterMarks to_names to_spelled to_rows to_alike to_near to_asks to_letters to_words to_askCount (0 : Int32) (0 : Int32) x1 (1 : Int32) v1 hc) (cwV 4 hts gX4_windAt_X4_faultOfRow rfl rfl rfl (by decide +kernel) ⟨Nat.le_of_ble_eq_true rfl, Nat.le_of_ble_eq_true rfl⟩) EB_X hE hK hP hD hS hA 12 (ci := 3) rfl rfl rfl rfl hl.1 rfl (Nat.le_of_ble_eq_true rfl) dX4_windAt_5 ⟨Nat.zero_le _, Nat.zero_le _⟩ (fun H locs hP hD hS => ?_)
  refine lv_if_eq (tgt := 14) hx hb dX4_windAt_8 (by decide) (fun c2 => ?_) (fun c2 => ?_)
  · have h := it_use c2 h
    refine lv_bipush (v := -2) hx hb dX4_windAt_14 (by decide) ?_
    refine lv_iconst (v := 2) hx hb dX4_windAt_16 (by decide) ?_
    refine lv_aload_n hx hb dX4_windAt_17 rfl (lv_at hl 0 rfl) ?_
    refine lv_iconst (v := 0) hx hb dX4_windAt_18 (by decide) ?_
    refine lv_iload_n hx hb dX4_windAt_19 rfl (lv_at hl 1 rfl) ?_
    obtain ⟨v3, hc, h⟩ := bd1_use h
    refine cv_i (As := [.int (0 : Int32), .int x1]) (rest := [.int (2 : Int32), .int (-2 : Int32)]) ⟨hx, hb, hml, hown, hts⟩ (kX4_cellAt l n dC dI cB cI cJ cZ a adK adV _ ww_latestFault tp_bytes tp_size rd_fault rd_faultPlace rd_kind rd_start rd_at rd_number dr_letterMarks dr_names dr_spelled dr_rows dr_alike dr_near dr_asks dr_letters dr_words dr_askCount sh_lanes sh_sizes sh_cells la_xs la_ys la_heights la_ridgeXs la_ridgeHeights la_way la_blurs la_steps la_places la_ridges la_wayBlur la_wayLength bk_times bk_froms bk_asks bk_words bk_firsts bk_lies bk_held bk_size nu_learned nu_size to_letterMarks to_names to_spelled to_rows to_alike to_near to_asks to_letters to_words to_askCount (0 : Int32) x1 v3 hc) (cwV 2 hts gX4_windAt_X4_cellAt rfl rfl rfl (by decide +kernel) ⟨Nat.le_of_ble_eq_true rfl, Nat.le_of_ble_eq_true rfl⟩) EB_X hE hK hP hD hS hA 12 (ci := 3) rfl rfl rfl rfl hl.1 rfl (Nat.le_of_ble_eq_true rfl) dX4_windAt_20 ⟨Nat.zero_le _, Nat.zero_le _⟩ (fun H locs hP hD hS => ?_)
    refine va_mmin hx hb (hml.trans hl.1.symm) hown hw0 hw1 hw2 hw3 (Nat.le_of_ble_eq_true rfl) (Nat.le_of_ble_eq_true rfl) (Nat.zero_le _) (Nat.zero_le _) dX4_windAt_23 ?_
    refine lv_topi (fun v4 ev4 => ?_)
    have h := nm_use ev4 h
    refine va_mmax hx hb (hml.trans hl.1.symm) hown hw4 hw5 hw2 hw6 (Nat.le_of_ble_eq_true rfl) (Nat.le_of_ble_eq_true rfl) (Nat.zero_le _) (Nat.zero_le _) dX4_windAt_26 ?_
    refine lv_topi (fun v5 ev5 => ?_)
    have h := nm_use ev5 h
    obtain er := rt1_use h
    exact re_i hx hb hr hlocks hK hP hD hS er dX4_windAt_29
  · have h := ie_use c2 h
    refine lv_bipush (v := 9) hx hb dX4_windAt_11 (by decide) ?_
    obtain er := rt1_use h
    exact re_i hx hb hr hlocks hK hP hD hS er dX4_windAt_13

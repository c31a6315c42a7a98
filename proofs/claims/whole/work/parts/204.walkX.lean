set_option maxHeartbeats 4000000 in
set_option maxRecDepth 100000 in
theorem kX0_settlesWord (l : Launch) (n : Nat) (dC : Nat → ClassId) (dI : Nat → Nat → Nat) (cB cI cJ cZ : ClassId) (a : Nat → Nat) (adK adV : Nat → Nat) (sz : Nat) (ww_latestFault : Int32) (tp_bytes : Nat → Int32) (tp_size : Int32) (rd_fault : Int32) (rd_faultPlace : Int32) (rd_kind : Int32) (rd_start : Int32) (rd_at : Int32) (rd_number : Int32) (dr_letterMarks : Nat → Int32) (dr_names : Nat → Int64) (dr_spelled : Nat → Int32) (dr_rows : Nat → Int64) (dr_alike : Nat → Int32) (dr_near : Nat → Int32) (dr_asks : Nat → Int32) (dr_letters : Int32) (dr_words : Int32) (dr_askCount : Int32) (sh_lanes : Nat → Int32) (sh_sizes : Nat → Int32) (sh_cells : Nat → Int32) (la_xs : Nat → Int32) (la_ys : Nat → Int32) (la_heights : Nat → Int32) (la_ridgeXs : Nat → Int32) (la_ridgeHeights : Nat → Int32) (la_way : Nat → Int32) (la_blurs : Nat → Int32) (la_steps : Nat → Int32) (la_places : Int32) (la_ridges : Int32) (la_wayBlur : Int32) (la_wayLength : Int32) (bk_times : Nat → Int32) (bk_froms : Nat → Int32) (bk_asks : Nat → Int32) (bk_words : Nat → Int32) (bk_firsts : Nat → Int32) (bk_lies : Nat → Int32) (bk_held : Nat → Int32) (bk_size : Int32) (nu_learned : Nat → Int32) (nu_size : Int32) (to_letterMarks : Nat → Int32) (to_names : Nat → Int64) (to_spelled : Nat → Int32) (to_rows : Nat → Int64) (to_alike : Nat → Int32) (to_near : Nat → Int32) (to_asks : Nat → Int32) (to_letters : Int32) (to_words : Int32) (to_askCount : Int32) (x1 : Int32) (x2 : Int32) (r0 : Int32) (z_bk_held : Nat → Int32) (h : fX0_settlesWord n sh_lanes sh_sizes sh_cells la_xs la_ys la_heights la_ridgeXs la_ridgeHeights la_ridges bk_times bk_froms bk_asks bk_words bk_firsts bk_lies bk_held to_alike to_asks x1 x2 = some (r0, z_bk_held)) : Met l yX0_settlesWord wsX0_settlesWord ({ frames := 4, cells := 0, slots := 0, locals := 97 }) (gP (dC, dI) (tyz cB cI cJ cZ) (E_X adK adV) (wX cB cI cJ cZ a (a 35) (a 4) ww_latestFault tp_bytes tp_size rd_fault rd_faultPlace rd_kind rd_start rd_at rd_number dr_letterMarks dr_names dr_spelled dr_rows dr_alike dr_near dr_asks dr_letters dr_words dr_askCount sh_lanes sh_sizes sh_cells la_xs la_ys la_heights la_ridgeXs la_ridgeHeights la_way la_blurs la_steps la_places la_ridges la_wayBlur la_wayLength bk_times bk_froms bk_asks bk_words bk_firsts bk_lies bk_held bk_size nu_learned nu_size to_letterMarks to_names to_spelled to_rows to_alike to_near to_asks to_letters to_words to_askCount) sz [.ref (a 25), .int x1, .int x2, .ref (a 35)]) (gI (dC, dI) (tyz cB cI cJ cZ) (wX cB cI cJ cZ a (a 35) (a 4) ww_latestFault tp_bytes tp_size rd_fault rd_faultPlace rd_kind rd_start rd_at rd_number dr_letterMarks dr_names dr_spelled dr_rows dr_alike dr_near dr_asks dr_letters dr_words dr_askCount sh_lanes sh_sizes sh_cells la_xs la_ys la_heights la_ridgeXs la_ridgeHeights la_way la_blurs la_steps la_places la_ridges la_wayBlur la_wayLength bk_times bk_froms bk_asks bk_words bk_firsts bk_lies z_bk_held bk_size nu_learned nu_size to_letterMarks to_names to_spelled to_rows to_alike to_near to_asks to_letters to_words to_askCount) (va_A (wX cB cI cJ cZ a (a 35) (a 4) ww_latestFault tp_bytes tp_size rd_fault rd_faultPlace rd_kind rd_start rd_at rd_number dr_letterMarks dr_names dr_spelled dr_rows dr_alike dr_near dr_asks dr_letters dr_words dr_askCount sh_lanes sh_sizes sh_cells la_xs la_ys la_heights la_ridgeXs la_ridgeHeights la_way la_blurs la_steps la_places la_ridges la_wayBlur la_wayLength bk_times bk_froms bk_asks bk_words bk_firsts bk_lies bk_held bk_size nu_learned nu_size to_letterMarks to_names to_spelled to_rows to_alike to_near to_asks to_letters to_words to_askCount) sz) r0) 0 0 (va_A (wX cB cI cJ cZ a (a 35) (a 4) ww_latestFault tp_bytes tp_size rd_fault rd_faultPlace rd_kind rd_start rd_at rd_number dr_letterMarks dr_names dr_spelled dr_rows dr_alike dr_near dr_asks dr_letters dr_words dr_askCount sh_lanes sh_sizes sh_cells la_xs la_ys la_heights la_ridgeXs la_ridgeHeights la_way la_blurs la_steps la_places la_ridges la_wayBlur la_wayLength bk_times bk_froms bk_asks bk_words bk_firsts bk_lies bk_held bk_size nu_learned nu_size to_letterMarks to_names to_spelled to_rows to_alike to_near to_asks to_letters to_words to_askCount) sz) := by
  refine Met.ofW (cc := cX0_settlesWord) (maxL := 5) (ret := (some .boolean)) (by decide) rfl ?_
  intro p e s m args below meth c s₁ B hml hv
  obtain ⟨rfl, hsz, hP, hK, hD0, hE⟩ := hv
  have hx := B.exec
  have hb := B.bytes
  have hr := B.returns
  have hts := atoms_spec (ws := wsX0_settlesWord) B.pre
  have hown : s.vm.findClass RX0 = some m.cls := findClass_of_methodNamed B.named
  have hlocks := B.notSynchronized
  subst hsz
  have hD := hD0.self (sz := s.heap.size)
  have hA : ∀ q : Nat, s.heap.size ≤ q → va_A (wX cB cI cJ cZ a (a 35) (a 4) ww_latestFault tp_bytes tp_size rd_fault rd_faultPlace rd_kind rd_start rd_at rd_number dr_letterMarks dr_names dr_spelled dr_rows dr_alike dr_near dr_asks dr_letters dr_words dr_askCount sh_lanes sh_sizes sh_cells la_xs la_ys la_heights la_ridgeXs la_ridgeHeights la_way la_blurs la_steps la_places la_ridges la_wayBlur la_wayLength bk_times bk_froms bk_asks bk_words bk_firsts bk_lies bk_held bk_size nu_learned nu_size to_letterMarks to_names to_spelled to_rows to_alike to_near to_asks to_letters to_words to_askCount) s.heap.size q := fun q h => Or.inr h
  generalize va_A (wX cB cI cJ cZ a (a 35) (a 4) ww_latestFault tp_bytes tp_size rd_fault rd_faultPlace rd_kind rd_start rd_at rd_number dr_letterMarks dr_names dr_spelled dr_rows dr_alike dr_near dr_asks dr_letters dr_words dr_askCount sh_lanes sh_sizes sh_cells la_xs la_ys la_heights la_ridgeXs la_ridgeHeights la_way la_blurs la_steps la_places la_ridges la_wayBlur la_wayLength bk_times bk_froms bk_asks bk_words bk_firsts bk_lies bk_held bk_size nu_learned nu_size to_letterMarks to_names to_spelled to_rows to_alike to_near to_asks to_letters to_words to_askCount) s.heap.size = A at hD hA hE ⊢
  have hS : va_S A s.heap s.heap [] := va_S.rf
  have C0 : cxt cX0_settlesWord (some .boolean) 5 RX0 wsX0_settlesWord (dC, dI) (tyz cB cI cJ cZ) (E_X adK adV) A p s m ([.ref (a 25), .int x1, .int x2, .ref (a 35)] : List Value).toArray meth c := ⟨hx, hb, hr, hml, hown, hts, hlocks, hK, hA, hE⟩
  have hl := lv_entry ([.ref (a 25), .int x1, .int x2, .ref (a 35)]) (n := 5) (Nat.le_of_ble_eq_true rfl)
  rw [lg_entry_eq]
  generalize (lg_sl ([.ref (a 25), .int x1, .int x2, .ref (a 35)]) ++ List.replicate (5 - (lg_sl ([.ref (a 25), .int x1, .int x2, .ref (a 35)])).length) Slot.unset).toArray = ls at hl ⊢
  have hl : lv_has ls 5 [(0, .ref (a 25)), (1, .int x1), (2, .int x2), (3, .ref (a 35))] := hl
  have hw0 := hts (.fieldLink RX0 19 "WhistledWords$Book" "froms" "[I") (by decide +kernel)
  have hw1 := hts (.fieldLink RX0 28 "WhistledWords$Book" "firsts" "[I") (by decide +kernel)
  have hw2 := hts (.fieldLink RX0 35 "WhistledWords$Book" "held" "[I") (by decide +kernel)
  have hnX0 : ∀ w ∈ u_ws RX0 TX0 9, w ∈ wsX0_settlesWord := fun _ h => List.mem_cons_of_mem _ (List.mem_append_left _ (List.mem_append_left _ (List.mem_append_left _ (List.mem_append_right _ h))))
  unfold fX0_settlesWord at h
  refine lv_aload_n hx hb dX0_settlesWord_0 rfl (lv_at hl 0 rfl) ?_
  refine lv_iload_n hx hb dX0_settlesWord_1 rfl (lv_at hl 2 rfl) ?_
  obtain ⟨v1, hc, h⟩ := bd1_use h
  refine cv_i (As := [.int x2]) (rest := []) ⟨hx, hb, hml, hown, hts⟩ (kX0_isFalse l n dC dI cB cI cJ cZ a adK adV _ ww_latestFault tp_bytes tp_size rd_fault rd_faultPlace rd_kind rd_start rd_at rd_number dr_letterMarks dr_names dr_spelled dr_rows dr_alike dr_near dr_asks dr_letters dr_words dr_askCount sh_lanes sh_sizes sh_cells la_xs la_ys la_heights la_ridgeXs la_ridgeHeights la_way la_blurs la_steps la_places la_ridges la_wayBlur la_wayLength bk_times bk_froms bk_asks bk_words bk_firsts bk_lies bk_held bk_size nu_learned nu_size to_letterMarks to_names to_spelled to_rows to_alike to_near to_asks to_letters to_words to_askCount x2 v1 hc) (cwV 1 hts gX0_settlesWord_X0_isFalse rfl rfl rfl (by decide +kernel) ⟨Nat.le_of_ble_eq_true rfl, Nat.le_of_ble_eq_true rfl⟩) EB_X hE hK hP hD hS hA 25 (ci := 0) rfl rfl rfl rfl hl.1 rfl (Nat.le_of_ble_eq_true rfl) dX0_settlesWord_2 ⟨Nat.zero_le _, Nat.zero_le _⟩ (fun H locs hP hD hS => ?_)
  refine lv_if_eq (tgt := 10) hx hb dX0_settlesWord_5 (by decide) (fun c2 => ?_) (fun c2 => ?_)
  · have h := it_use c2 h
    refine lv_aload_n hx hb dX0_settlesWord_10 rfl (lv_at hl 0 rfl) ?_
    refine gX_book_froms hx hb hts hnX0 hown hK hP hw0 dX0_settlesWord_11 ?_
    refine lv_iload_n hx hb dX0_settlesWord_14 rfl (lv_at hl 2 rfl) ?_
    obtain ⟨hiv3, h⟩ := ar_use h
    refine lX_book_froms hx hb hK hP hiv3 dX0_settlesWord_15 ?_
    refine lv_topi (fun v3 ev3 => ?_)
    have h := h v3 ev3
    refine lv_iload_n hx hb dX0_settlesWord_16 rfl (lv_at hl 1 rfl) ?_
    refine lv_icmp_ne (tgt := 22) hx hb dX0_settlesWord_17 (by decide) (fun c4 => ?_) (fun c4 => ?_)
    · have h := ie_use c4 h
      refine lv_aload_n hx hb dX0_settlesWord_22 rfl (lv_at hl 0 rfl) ?_
      refine gX_book_firsts hx hb hts hnX0 hown hK hP hw1 dX0_settlesWord_23 ?_
      refine lv_iload_n hx hb dX0_settlesWord_26 rfl (lv_at hl 2 rfl) ?_
      obtain ⟨hiv5, h⟩ := ar_use h
      refine lX_book_firsts hx hb hK hP hiv5 dX0_settlesWord_27 ?_
      refine lv_topi (fun v5 ev5 => ?_)
      have h := h v5 ev5
      refine lv_istore (lv' := [(4, .int v5), (0, .ref (a 25)), (1, .int x1), (2, .int x2), (3, .ref (a 35))]) hx hb dX0_settlesWord_28 hl (by decide) rfl (fun ls hl => ?_)
      refine lv_aload_n hx hb dX0_settlesWord_30 rfl (lv_at hl 1 rfl) ?_
      refine gX_book_held hx hb hts hnX0 hown hK hP hw2 dX0_settlesWord_31 ?_
      refine lv_iload hx hb dX0_settlesWord_34 (lv_at hl 0 rfl) ?_
      refine lv_dup2_11 hx hb dX0_settlesWord_36 rfl rfl ?_
      obtain ⟨hiv6, h⟩ := ar_use h
      refine lX_book_held hx hb hK hP hiv6 dX0_settlesWord_37 ?_
      refine lv_topi (fun v6 ev6 => ?_)
      have h := h v6 ev6
      refine lv_aload_n hx hb dX0_settlesWord_38 rfl (lv_at hl 1 rfl) ?_
      refine lv_iload_n hx hb dX0_settlesWord_39 rfl (lv_at hl 2 rfl) ?_
      refine lv_iload_n hx hb dX0_settlesWord_40 rfl (lv_at hl 3 rfl) ?_
      refine lv_aload_n hx hb dX0_settlesWord_41 rfl (lv_at hl 4 rfl) ?_
      obtain ⟨v7, hc, h⟩ := bd1_use h
      refine cv_i (As := [.int x1, .int x2, .ref (a 35)]) (rest := [.int v6, .int v5, .ref (a 32)]) ⟨hx, hb, hml, hown, hts⟩ (kX0_heardBy l n dC dI cB cI cJ cZ a adK adV _ ww_latestFault tp_bytes tp_size rd_fault rd_faultPlace rd_kind rd_start rd_at rd_number dr_letterMarks dr_names dr_spelled dr_rows dr_alike dr_near dr_asks dr_letters dr_words dr_askCount sh_lanes sh_sizes sh_cells la_xs la_ys la_heights la_ridgeXs la_ridgeHeights la_way la_blurs la_steps la_places la_ridges la_wayBlur la_wayLength bk_times bk_froms bk_asks bk_words bk_firsts bk_lies bk_held bk_size nu_learned nu_size to_letterMarks to_names to_spelled to_rows to_alike to_near to_asks to_letters to_words to_askCount x1 x2 v7 hc) (cwV 3 hts gX0_settlesWord_X0_heardBy rfl rfl rfl (by decide +kernel) ⟨Nat.le_of_ble_eq_true rfl, Nat.le_of_ble_eq_true rfl⟩) EB_X hE hK hP hD hS hA 25 (ci := 0) rfl rfl rfl rfl hl.1 rfl (Nat.le_of_ble_eq_true rfl) dX0_settlesWord_42 ⟨Nat.zero_le _, Nat.zero_le _⟩ (fun H locs hP hD hS => ?_)
      refine lv_iand hx hb dX0_settlesWord_45 ?_
      obtain ⟨hif8, f8, ef8, h⟩ := aw_use h
      refine sX_book_held hx hb hK hP hD hS hif8 ef8 dX0_settlesWord_46 (fun H locs hP hD hS => ?_)
      refine lv_aload_n hx hb dX0_settlesWord_47 rfl (lv_at hl 1 rfl) ?_
      refine gX_book_held hx hb hts hnX0 hown hK hP hw2 dX0_settlesWord_48 ?_
      refine lv_iload hx hb dX0_settlesWord_51 (lv_at hl 0 rfl) ?_
      obtain ⟨hiv9, h⟩ := ar_use h
      refine lX_book_held hx hb hK hP hiv9 dX0_settlesWord_53 ?_
      refine lv_topi (fun v9 ev9 => ?_)
      have h := h v9 ev9
      obtain ⟨v10, hc, h⟩ := bd1_use h
      refine cs_i (As := [.int v9]) (rest := []) ⟨hx, hb, hml, hown, hts⟩ (kX0_isOneWord l n v9 v10 hc) (va_cwS 1 hts gX0_settlesWord_X0_isOneWord rfl rfl rfl (by decide +kernel) ⟨Nat.le_of_ble_eq_true rfl, Nat.le_of_ble_eq_true rfl⟩) hP hS rfl hl.1 rfl (Nat.le_of_ble_eq_true rfl) dX0_settlesWord_54 ⟨Nat.zero_le _, Nat.zero_le _⟩ (fun H locs hP hS => ?_)
      obtain ⟨hzb, h⟩ := rb_use h
      obtain ⟨er, ez0⟩ := rt2_use h
      subst ez0
      exact re_z hx hb hr hlocks hK hP hD hS hzb er dX0_settlesWord_57
    · have h := it_use c4 h
      refine lv_iconst (v := 1) hx hb dX0_settlesWord_20 (by decide) ?_
      obtain ⟨er, ez0⟩ := rt2_use h
      subst ez0
      exact re_z hx hb hr hlocks hK hP hD hS (Or.inr rfl) er dX0_settlesWord_21
  · have h := ie_use c2 h
    refine lv_iconst (v := 0) hx hb dX0_settlesWord_8 (by decide) ?_
    obtain ⟨er, ez0⟩ := rt2_use h
    subst ez0
    exact re_z hx hb hr hlocks hK hP hD hS (Or.inl rfl) er dX0_settlesWord_9
set_option maxHeartbeats 4000000 in
set_option maxRecDepth 100000 in
theorem kX0_knownTo_p14_r {p : Program} {l : Launch} {e : Env} {s : State} {m : MethodId} {args : Array Value} {below : List Frame} {meth : Method} {c : Code} {A : Nat → Prop} (dC : Nat → ClassId) (dI : Nat → Nat → Nat) (cB cI cJ cZ : ClassId) (a : Nat → Nat) (adK adV : Nat → Nat) (C0 : cxt cX0_knownTo (some .int) 7 RX0 wsX0_knownTo (dC, dI) (tyz cB cI cJ cZ) (E_X adK adV) A p s m args meth c) (n : Nat) (ww_latestFault : Int32) (tp_bytes : Nat → Int32) (tp_size : Int32) (rd_fault : Int32) (rd_faultPlace : Int32) (rd_kind : Int32) (rd_start : Int32) (rd_at : Int32) (rd_number : Int32) (dr_letterMarks : Nat → Int32) (dr_names : Nat → Int64) (dr_spelled : Nat → Int32) (dr_rows : Nat → Int64) (dr_alike : Nat → Int32) (dr_near : Nat → Int32) (dr_asks : Nat → Int32) (dr_letters : Int32) (dr_words : Int32) (dr_askCount : Int32) (sh_lanes : Nat → Int32) (sh_sizes : Nat → Int32) (sh_cells : Nat → Int32) (la_xs : Nat → Int32) (la_ys : Nat → Int32) (la_heights : Nat → Int32) (la_ridgeXs : Nat → Int32) (la_ridgeHeights : Nat → Int32) (la_way : Nat → Int32) (la_blurs : Nat → Int32) (la_steps : Nat → Int32) (la_places : Int32) (la_ridges : Int32) (la_wayBlur : Int32) (la_wayLength : Int32) (bk_times : Nat → Int32) (bk_froms : Nat → Int32) (bk_asks : Nat → Int32) (bk_words : Nat → Int32) (bk_firsts : Nat → Int32) (bk_lies : Nat → Int32) (bk_size : Int32) (nu_learned : Nat → Int32) (nu_size : Int32) (to_letterMarks : Nat → Int32) (to_names : Nat → Int64) (to_spelled : Nat → Int32) (to_rows : Nat → Int64) (to_alike : Nat → Int32) (to_near : Nat → Int32) (to_asks : Nat → Int32) (to_letters : Int32) (to_words : Int32) (to_askCount : Int32) (x1 : Int32) (x2 : Int32) (x3 : Int32) (r0 : Int32) (z_bk_held : Nat → Int32)  : ∀ (k : Nat) (bk_held : Nat → Int32) (x5 : Int32) (x6 : Int32) (H : Heap) (locs : List Loc) (ls : Array Slot), fX0_knownTo_p14 n sh_lanes sh_sizes sh_cells la_xs la_ys la_heights la_ridgeXs la_ridgeHeights la_ridges bk_times bk_froms bk_asks bk_words bk_firsts bk_lies to_alike to_asks x1 x2 x3 k bk_held x5 x6 = some (r0, z_bk_held) → va_P (dC, dI) vwCl (wX cB cI cJ cZ a (a 35) (a 4) ww_latestFault tp_bytes tp_size rd_fault rd_faultPlace rd_kind rd_start rd_at rd_number dr_letterMarks dr_names dr_spelled dr_rows dr_alike dr_near dr_asks dr_letters dr_words dr_askCount sh_lanes sh_sizes sh_cells la_xs la_ys la_heights la_ridgeXs la_ridgeHeights la_way la_blurs la_steps la_places la_ridges la_wayBlur la_wayLength bk_times bk_froms bk_asks bk_words bk_firsts bk_lies bk_held bk_size nu_learned nu_size to_letterMarks to_names to_spelled to_rows to_alike to_near to_asks to_letters to_words to_askCount) H → va_D A (wX cB cI cJ cZ a (a 35) (a 4) ww_latestFault tp_bytes tp_size rd_fault rd_faultPlace rd_kind rd_start rd_at rd_number dr_letterMarks dr_names dr_spelled dr_rows dr_alike dr_near dr_asks dr_letters dr_words dr_askCount sh_lanes sh_sizes sh_cells la_xs la_ys la_heights la_ridgeXs la_ridgeHeights la_way la_blurs la_steps la_places la_ridges la_wayBlur la_wayLength bk_times bk_froms bk_asks bk_words bk_firsts bk_lies bk_held bk_size nu_learned nu_size to_letterMarks to_names to_spelled to_rows to_alike to_near to_asks to_letters to_words to_askCount) → va_S A s.heap H locs → lv_has ls 7 [(0, .ref (a 25)), (1, .int x1), (2, .int x2), (3, .int x3), (4, .ref (a 35)), (5, .int x5), (6, .int x6)] → W p l e { frames := 5, cells := 0, slots := 0, locals := 121 } s m args below meth c H locs 0 0 (MQ below (gI (dC, dI) (tyz cB cI cJ cZ) (wX cB cI cJ cZ a (a 35) (a 4) ww_latestFault tp_bytes tp_size rd_fault rd_faultPlace rd_kind rd_start rd_at rd_number dr_letterMarks dr_names dr_spelled dr_rows dr_alike dr_near dr_asks dr_letters dr_words dr_askCount sh_lanes sh_sizes sh_cells la_xs la_ys la_heights la_ridgeXs la_ridgeHeights la_way la_blurs la_steps la_places la_ridges la_wayBlur la_wayLength bk_times bk_froms bk_asks bk_words bk_firsts bk_lies z_bk_held bk_size nu_learned nu_size to_letterMarks to_names to_spelled to_rows to_alike to_near to_asks to_letters to_words to_askCount) A r0) args s 0 0 A) (F0 m 14 ls []) := by
  obtain ⟨hx, hb, hr, hml, hown, hts, hlocks, hK, hA, hE⟩ := id C0
  have hw0 := hts (.fieldLink RX0 22 "WhistledWords$Book" "asks" "[I") (by decide +kernel)
  have hw1 := hts (.fieldLink RX0 25 "WhistledWords$Book" "words" "[I") (by decide +kernel)
  have hnX0 : ∀ w ∈ u_ws RX0 TX0 9, w ∈ wsX0_knownTo := fun _ h => List.mem_cons_of_mem _ (List.mem_append_left _ (List.mem_append_left _ (List.mem_append_left _ (List.mem_append_right _ h))))
  intro k
  induction k with
  | zero =>
    intro bk_held x5 x6 H locs ls h
    cases h
  | succ k ih =>
    intro bk_held x5 x6 H locs ls h hP hD hS hl
    rw [fX0_knownTo_p14] at h
    refine lv_iload hx hb dX0_knownTo_14 (lv_at hl 6 rfl) ?_
    refine lv_iload_n hx hb dX0_knownTo_16 rfl (lv_at hl 3 rfl) ?_
    refine lv_icmp_ge (tgt := 63) hx hb dX0_knownTo_17 (by decide) (fun c1 => ?_) (fun c1 => ?_)
    · have h := it_use c1 h
      refine lv_iload hx hb dX0_knownTo_63 (lv_at hl 5 rfl) ?_
      obtain ⟨er, ez0⟩ := rt2_use h
      subst ez0
      exact re_i hx hb hr hlocks hK hP hD hS er dX0_knownTo_65
    · have h := ie_use c1 h
      refine lv_aload_n hx hb dX0_knownTo_20 rfl (lv_at hl 0 rfl) ?_
      refine gX_book_asks hx hb hts hnX0 hown hK hP hw0 dX0_knownTo_21 ?_
      refine lv_iload hx hb dX0_knownTo_24 (lv_at hl 6 rfl) ?_
      obtain ⟨hiv2, h⟩ := ar_use h
      refine lX_book_asks hx hb hK hP hiv2 dX0_knownTo_26 ?_
      refine lv_topi (fun v2 ev2 => ?_)
      have h := h v2 ev2
      refine lv_iload_n hx hb dX0_knownTo_27 rfl (lv_at hl 2 rfl) ?_
      refine lv_icmp_ne (tgt := 57) hx hb dX0_knownTo_28 (by decide) (fun c3 => ?_) (fun c3 => ?_)
      · have h := ie_use c3 h
        refine lv_iinc (v := x6 + 1) (lv' := [(6, .int (x6 + 1)), (0, .ref (a 25)), (1, .int x1), (2, .int x2), (3, .int x3), (4, .ref (a 35)), (5, .int x5)]) hx hb dX0_knownTo_57 hl (k := 6) rfl rfl (by decide) rfl (fun ls hl => ?_)
        refine lv_goto (tgt := 14) hx hb dX0_knownTo_60 (by decide) ?_
        exact ih bk_held x5 (x6 + 1) _ _ ls h hP hD hS (lv_sub hl [1, 2, 3, 4, 5, 6, 0] rfl)
      · have h := it_use c3 h
        refine lv_aload_n hx hb dX0_knownTo_31 rfl (lv_at hl 0 rfl) ?_
        refine lv_iload_n hx hb dX0_knownTo_32 rfl (lv_at hl 1 rfl) ?_
        refine lv_iload hx hb dX0_knownTo_33 (lv_at hl 6 rfl) ?_
        refine lv_aload hx hb dX0_knownTo_35 (lv_at hl 4 rfl) ?_
        obtain ⟨v4, f5, hc, h⟩ := bd2_use h
        refine cv_i (As := [.int x1, .int x6, .ref (a 35)]) (rest := []) ⟨hx, hb, hml, hown, hts⟩ (kX0_settlesWord l n dC dI cB cI cJ cZ a adK adV _ ww_latestFault tp_bytes tp_size rd_fault rd_faultPlace rd_kind rd_start rd_at rd_number dr_letterMarks dr_names dr_spelled dr_rows dr_alike dr_near dr_asks dr_letters dr_words dr_askCount sh_lanes sh_sizes sh_cells la_xs la_ys la_heights la_ridgeXs la_ridgeHeights la_way la_blurs la_steps la_places la_ridges la_wayBlur la_wayLength bk_times bk_froms bk_asks bk_words bk_firsts bk_lies bk_held bk_size nu_learned nu_size to_letterMarks to_names to_spelled to_rows to_alike to_near to_asks to_letters to_words to_askCount x1 x6 v4 f5 hc) (cwV 3 hts gX0_knownTo_X0_settlesWord rfl rfl rfl (by decide +kernel) ⟨Nat.le_of_ble_eq_true rfl, Nat.le_of_ble_eq_true rfl⟩) EB_X hE hK hP hD hS hA 25 (ci := 0) rfl rfl rfl rfl hl.1 rfl (Nat.le_of_ble_eq_true rfl) dX0_knownTo_37 ⟨Nat.zero_le _, Nat.zero_le _⟩ (fun H locs hP hD hS => ?_)
        refine lv_if_eq (tgt := 57) hx hb dX0_knownTo_40 (by decide) (fun c6 => ?_) (fun c6 => ?_)
        · have h := it_use c6 h
          refine lv_iinc (v := x6 + 1) (lv' := [(6, .int (x6 + 1)), (0, .ref (a 25)), (1, .int x1), (2, .int x2), (3, .int x3), (4, .ref (a 35)), (5, .int x5)]) hx hb dX0_knownTo_57 hl (k := 6) rfl rfl (by decide) rfl (fun ls hl => ?_)
          refine lv_goto (tgt := 14) hx hb dX0_knownTo_60 (by decide) ?_
          exact ih f5 x5 (x6 + 1) _ _ ls h hP hD hS (lv_sub hl [1, 2, 3, 4, 5, 6, 0] rfl)
        · have h := ie_use c6 h
          refine lv_iload hx hb dX0_knownTo_43 (lv_at hl 5 rfl) ?_
          refine lv_iconst (v := 1) hx hb dX0_knownTo_45 (by decide) ?_
          refine lv_aload_n hx hb dX0_knownTo_46 rfl (lv_at hl 0 rfl) ?_
          refine gX_book_words hx hb hts hnX0 hown hK hP hw1 dX0_knownTo_47 ?_
          refine lv_iload hx hb dX0_knownTo_50 (lv_at hl 6 rfl) ?_
          obtain ⟨hiv7, h⟩ := ar_use h
          refine lX_book_words hx hb hK hP hiv7 dX0_knownTo_52 ?_
          refine lv_topi (fun v7 ev7 => ?_)
          have h := h v7 ev7
          refine lv_ishl hx hb dX0_knownTo_53 ?_
          refine lv_ior hx hb dX0_knownTo_54 ?_
          refine lv_topi (fun v8 ev8 => ?_)
          have h := nm_use ev8 h
          refine lv_istore (lv' := [(5, .int v8), (0, .ref (a 25)), (1, .int x1), (2, .int x2), (3, .int x3), (4, .ref (a 35)), (6, .int x6)]) hx hb dX0_knownTo_55 hl (by decide) rfl (fun ls hl => ?_)
          refine lv_iinc (v := x6 + 1) (lv' := [(6, .int (x6 + 1)), (5, .int v8), (0, .ref (a 25)), (1, .int x1), (2, .int x2), (3, .int x3), (4, .ref (a 35))]) hx hb dX0_knownTo_57 hl (k := 6) rfl rfl (by decide) rfl (fun ls hl => ?_)
          refine lv_goto (tgt := 14) hx hb dX0_knownTo_60 (by decide) ?_
          exact ih f5 v8 (x6 + 1) _ _ ls h hP hD hS (lv_sub hl [2, 3, 4, 5, 6, 1, 0] rfl)
theorem kX0_knownTo_p14 {p : Program} {l : Launch} {e : Env} {s : State} {m : MethodId} {args : Array Value} {below : List Frame} {meth : Method} {c : Code} {A : Nat → Prop} (dC : Nat → ClassId) (dI : Nat → Nat → Nat) (cB cI cJ cZ : ClassId) (a : Nat → Nat) (adK adV : Nat → Nat) (C0 : cxt cX0_knownTo (some .int) 7 RX0 wsX0_knownTo (dC, dI) (tyz cB cI cJ cZ) (E_X adK adV) A p s m args meth c) (n : Nat) (ww_latestFault : Int32) (tp_bytes : Nat → Int32) (tp_size : Int32) (rd_fault : Int32) (rd_faultPlace : Int32) (rd_kind : Int32) (rd_start : Int32) (rd_at : Int32) (rd_number : Int32) (dr_letterMarks : Nat → Int32) (dr_names : Nat → Int64) (dr_spelled : Nat → Int32) (dr_rows : Nat → Int64) (dr_alike : Nat → Int32) (dr_near : Nat → Int32) (dr_asks : Nat → Int32) (dr_letters : Int32) (dr_words : Int32) (dr_askCount : Int32) (sh_lanes : Nat → Int32) (sh_sizes : Nat → Int32) (sh_cells : Nat → Int32) (la_xs : Nat → Int32) (la_ys : Nat → Int32) (la_heights : Nat → Int32) (la_ridgeXs : Nat → Int32) (la_ridgeHeights : Nat → Int32) (la_way : Nat → Int32) (la_blurs : Nat → Int32) (la_steps : Nat → Int32) (la_places : Int32) (la_ridges : Int32) (la_wayBlur : Int32) (la_wayLength : Int32) (bk_times : Nat → Int32) (bk_froms : Nat → Int32) (bk_asks : Nat → Int32) (bk_words : Nat → Int32) (bk_firsts : Nat → Int32) (bk_lies : Nat → Int32) (bk_held : Nat → Int32) (bk_size : Int32) (nu_learned : Nat → Int32) (nu_size : Int32) (to_letterMarks : Nat → Int32) (to_names : Nat → Int64) (to_spelled : Nat → Int32) (to_rows : Nat → Int64) (to_alike : Nat → Int32) (to_near : Nat → Int32) (to_asks : Nat → Int32) (to_letters : Int32) (to_words : Int32) (to_askCount : Int32)  (x1 : Int32) (x2 : Int32) (x3 : Int32) (x5 : Int32) (x6 : Int32) (r0 : Int32) (z_bk_held : Nat → Int32)  (k : Nat) (H : Heap) (locs : List Loc) (ls : Array Slot) : fX0_knownTo_p14 n sh_lanes sh_sizes sh_cells la_xs la_ys la_heights la_ridgeXs la_ridgeHeights la_ridges bk_times bk_froms bk_asks bk_words bk_firsts bk_lies to_alike to_asks x1 x2 x3 k bk_held x5 x6 = some (r0, z_bk_held) → va_P (dC, dI) vwCl (wX cB cI cJ cZ a (a 35) (a 4) ww_latestFault tp_bytes tp_size rd_fault rd_faultPlace rd_kind rd_start rd_at rd_number dr_letterMarks dr_names dr_spelled dr_rows dr_alike dr_near dr_asks dr_letters dr_words dr_askCount sh_lanes sh_sizes sh_cells la_xs la_ys la_heights la_ridgeXs la_ridgeHeights la_way la_blurs la_steps la_places la_ridges la_wayBlur la_wayLength bk_times bk_froms bk_asks bk_words bk_firsts bk_lies bk_held bk_size nu_learned nu_size to_letterMarks to_names to_spelled to_rows to_alike to_near to_asks to_letters to_words to_askCount) H → va_D A (wX cB cI cJ cZ a (a 35) (a 4) ww_latestFault tp_bytes tp_size rd_fault rd_faultPlace rd_kind rd_start rd_at rd_number dr_letterMarks dr_names dr_spelled dr_rows dr_alike dr_near dr_asks dr_letters dr_words dr_askCount sh_lanes sh_sizes sh_cells la_xs la_ys la_heights la_ridgeXs la_ridgeHeights la_way la_blurs la_steps la_places la_ridges la_wayBlur la_wayLength bk_times bk_froms bk_asks bk_words bk_firsts bk_lies bk_held bk_size nu_learned nu_size to_letterMarks to_names to_spelled to_rows to_alike to_near to_asks to_letters to_words to_askCount) → va_S A s.heap H locs → lv_has ls 7 [(0, .ref (a 25)), (1, .int x1), (2, .int x2), (3, .int x3), (4, .ref (a 35)), (5, .int x5), (6, .int x6)] → W p l e { frames := 5, cells := 0, slots := 0, locals := 121 } s m args below meth c H locs 0 0 (MQ below (gI (dC, dI) (tyz cB cI cJ cZ) (wX cB cI cJ cZ a (a 35) (a 4) ww_latestFault tp_bytes tp_size rd_fault rd_faultPlace rd_kind rd_start rd_at rd_number dr_letterMarks dr_names dr_spelled dr_rows dr_alike dr_near dr_asks dr_letters dr_words dr_askCount sh_lanes sh_sizes sh_cells la_xs la_ys la_heights la_ridgeXs la_ridgeHeights la_way la_blurs la_steps la_places la_ridges la_wayBlur la_wayLength bk_times bk_froms bk_asks bk_words bk_firsts bk_lies z_bk_held bk_size nu_learned nu_size to_letterMarks to_names to_spelled to_rows to_alike to_near to_asks to_letters to_words to_askCount) A r0) args s 0 0 A) (F0 m 14 ls []) :=
  kX0_knownTo_p14_r dC dI cB cI cJ cZ a adK adV C0 n ww_latestFault tp_bytes tp_size rd_fault rd_faultPlace rd_kind rd_start rd_at rd_number dr_letterMarks dr_names dr_spelled dr_rows dr_alike dr_near dr_asks dr_letters dr_words dr_askCount sh_lanes sh_sizes sh_cells la_xs la_ys la_heights la_ridgeXs la_ridgeHeights la_way la_blurs la_steps la_places la_ridges la_wayBlur la_wayLength bk_times bk_froms bk_asks bk_words bk_firsts bk_lies bk_size nu_learned nu_size to_letterMarks to_names to_spelled to_rows to_alike to_near to_asks to_letters to_words to_askCount x1 x2 x3 r0 z_bk_held  k bk_held x5 x6 H locs ls
set_option maxHeartbeats 4000000 in
set_option maxRecDepth 100000 in
theorem kX0_knownTo (l : Launch) (n : Nat) (dC : Nat → ClassId) (dI : Nat → Nat → Nat) (cB cI cJ cZ : ClassId) (a : Nat → Nat) (adK adV : Nat → Nat) (sz : Nat) (ww_latestFault : Int32) (tp_bytes : Nat → Int32) (tp_size : Int32) (rd_fault : Int32) (rd_faultPlace : Int32) (rd_kind : Int32) (rd_start : Int32) (rd_at : Int32) (rd_number : Int32) (dr_letterMarks : Nat → Int32) (dr_names : Nat → Int64) (dr_spelled : Nat → Int32) (dr_rows : Nat → Int64) (dr_alike : Nat → Int32) (dr_near : Nat → Int32) (dr_asks : Nat → Int32) (dr_letters : Int32) (dr_words : Int32) (dr_askCount : Int32) (sh_lanes : Nat → Int32) (sh_sizes : Nat → Int32) (sh_cells : Nat → Int32) (la_xs : Nat → Int32) (la_ys : Nat → Int32) (la_heights : Nat → Int32) (la_ridgeXs : Nat → Int32) (la_ridgeHeights : Nat → Int32) (la_way : Nat → Int32) (la_blurs : Nat → Int32) (la_steps : Nat → Int32) (la_places : Int32) (la_ridges : Int32) (la_wayBlur : Int32) (la_wayLength : Int32) (bk_times : Nat → Int32) (bk_froms : Nat → Int32) (bk_asks : Nat → Int32) (bk_words : Nat → Int32) (bk_firsts : Nat → Int32) (bk_lies : Nat → Int32) (bk_held : Nat → Int32) (bk_size : Int32) (nu_learned : Nat → Int32) (nu_size : Int32) (to_letterMarks : Nat → Int32) (to_names : Nat → Int64) (to_spelled : Nat → Int32) (to_rows : Nat → Int64) (to_alike : Nat → Int32) (to_near : Nat → Int32) (to_asks : Nat → Int32) (to_letters : Int32) (to_words : Int32) (to_askCount : Int32) (x1 : Int32) (x2 : Int32) (x3 : Int32) (r0 : Int32) (z_bk_held : Nat → Int32) (h : fX0_knownTo n sh_lanes sh_sizes sh_cells la_xs la_ys la_heights la_ridgeXs la_ridgeHeights la_ridges bk_times bk_froms bk_asks bk_words bk_firsts bk_lies bk_held to_alike to_asks x1 x2 x3 = some (r0, z_bk_held)) : Met l yX0_knownTo wsX0_knownTo ({ frames := 5, cells := 0, slots := 0, locals := 121 }) (gP (dC, dI) (tyz cB cI cJ cZ) (E_X adK adV) (wX cB cI cJ cZ a (a 35) (a 4) ww_latestFault tp_bytes tp_size rd_fault rd_faultPlace rd_kind rd_start rd_at rd_number dr_letterMarks dr_names dr_spelled dr_rows dr_alike dr_near dr_asks dr_letters dr_words dr_askCount sh_lanes sh_sizes sh_cells la_xs la_ys la_heights la_ridgeXs la_ridgeHeights la_way la_blurs la_steps la_places la_ridges la_wayBlur la_wayLength bk_times bk_froms bk_asks bk_words bk_firsts bk_lies bk_held bk_size nu_learned nu_size to_letterMarks to_names to_spelled to_rows to_alike to_near to_asks to_letters to_words to_askCount) sz [.ref (a 25), .int x1, .int x2, .int x3, .ref (a 35)]) (gI (dC, dI) (tyz cB cI cJ cZ) (wX cB cI cJ cZ a (a 35) (a 4) ww_latestFault tp_bytes tp_size rd_fault rd_faultPlace rd_kind rd_start rd_at rd_number dr_letterMarks dr_names dr_spelled dr_rows dr_alike dr_near dr_asks dr_letters dr_words dr_askCount sh_lanes sh_sizes sh_cells la_xs la_ys la_heights la_ridgeXs la_ridgeHeights la_way la_blurs la_steps la_places la_ridges la_wayBlur la_wayLength bk_times bk_froms bk_asks bk_words bk_firsts bk_lies z_bk_held bk_size nu_learned nu_size to_letterMarks to_names to_spelled to_rows to_alike to_near to_asks to_letters to_words to_askCount) (va_A (wX cB cI cJ cZ a (a 35) (a 4) ww_latestFault tp_bytes tp_size rd_fault rd_faultPlace rd_kind rd_start rd_at rd_number dr_letterMarks dr_names dr_spelled dr_rows dr_alike dr_near dr_asks dr_letters dr_words dr_askCount sh_lanes sh_sizes sh_cells la_xs la_ys la_heights la_ridgeXs la_ridgeHeights la_way la_blurs la_steps la_places la_ridges la_wayBlur la_wayLength bk_times bk_froms bk_asks bk_words bk_firsts bk_lies bk_held bk_size nu_learned nu_size to_letterMarks to_names to_spelled to_rows to_alike to_near to_asks to_letters to_words to_askCount) sz) r0) 0 0 (va_A (wX cB cI cJ cZ a (a 35) (a 4) ww_latestFault tp_bytes tp_size rd_fault rd_faultPlace rd_kind rd_start rd_at rd_number dr_letterMarks dr_names dr_spelled dr_rows dr_alike dr_near dr_asks dr_letters dr_words dr_askCount sh_lanes sh_sizes sh_cells la_xs la_ys la_heights la_ridgeXs la_ridgeHeights la_way la_blurs la_steps la_places la_ridges la_wayBlur la_wayLength bk_times bk_froms bk_asks bk_words bk_firsts bk_lies bk_held bk_size nu_learned nu_size to_letterMarks to_names to_spelled to_rows to_alike to_near to_asks to_letters to_words to_askCount) sz) := by
  refine Met.ofW (cc := cX0_knownTo) (maxL := 7) (ret := (some .int)) (by decide) rfl ?_
  intro p e s m args below meth c s₁ B hml hv
  obtain ⟨rfl, hsz, hP, hK, hD0, hE⟩ := hv
  have hx := B.exec
  have hb := B.bytes
  have hr := B.returns
  have hts := atoms_spec (ws := wsX0_knownTo) B.pre
  have hown : s.vm.findClass RX0 = some m.cls := findClass_of_methodNamed B.named
  have hlocks := B.notSynchronized
  subst hsz
  have hD := hD0.self (sz := s.heap.size)
  have hA : ∀ q : Nat, s.heap.size ≤ q → va_A (wX cB cI cJ cZ a (a 35) (a 4) ww_latestFault tp_bytes tp_size rd_fault rd_faultPlace rd_kind rd_start rd_at rd_number dr_letterMarks dr_names dr_spelled dr_rows dr_alike dr_near dr_asks dr_letters dr_words dr_askCount sh_lanes sh_sizes sh_cells la_xs la_ys la_heights la_ridgeXs la_ridgeHeights la_way la_blurs la_steps la_places la_ridges la_wayBlur la_wayLength bk_times bk_froms bk_asks bk_words bk_firsts bk_lies bk_held bk_size nu_learned nu_size to_letterMarks to_names to_spelled to_rows to_alike to_near to_asks to_letters to_words to_askCount) s.heap.size q := fun q h => Or.inr h
  generalize va_A (wX cB cI cJ cZ a (a 35) (a 4) ww_latestFault tp_bytes tp_size rd_fault rd_faultPlace rd_kind rd_start rd_at rd_number dr_letterMarks dr_names dr_spelled dr_rows dr_alike dr_near dr_asks dr_letters dr_words dr_askCount sh_lanes sh_sizes sh_cells la_xs la_ys la_heights la_ridgeXs la_ridgeHeights la_way la_blurs la_steps la_places la_ridges la_wayBlur la_wayLength bk_times bk_froms bk_asks bk_words bk_firsts bk_lies bk_held bk_size nu_learned nu_size to_letterMarks to_names to_spelled to_rows to_alike to_near to_asks to_letters to_words to_askCount) s.heap.size = A at hD hA hE ⊢
  have hS : va_S A s.heap s.heap [] := va_S.rf
  have C0 : cxt cX0_knownTo (some .int) 7 RX0 wsX0_knownTo (dC, dI) (tyz cB cI cJ cZ) (E_X adK adV) A p s m ([.ref (a 25), .int x1, .int x2, .int x3, .ref (a 35)] : List Value).toArray meth c := ⟨hx, hb, hr, hml, hown, hts, hlocks, hK, hA, hE⟩
  have hl := lv_entry ([.ref (a 25), .int x1, .int x2, .int x3, .ref (a 35)]) (n := 7) (Nat.le_of_ble_eq_true rfl)
  rw [lg_entry_eq]
  generalize (lg_sl ([.ref (a 25), .int x1, .int x2, .int x3, .ref (a 35)]) ++ List.replicate (7 - (lg_sl ([.ref (a 25), .int x1, .int x2, .int x3, .ref (a 35)])).length) Slot.unset).toArray = ls at hl ⊢
  have hl : lv_has ls 7 [(0, .ref (a 25)), (1, .int x1), (2, .int x2), (3, .int x3), (4, .ref (a 35))] := hl
  have hw0 := hts (.fieldLink RX0 35 "WhistledWords$Book" "held" "[I") (by decide +kernel)
  have hnX0 : ∀ w ∈ u_ws RX0 TX0 9, w ∈ wsX0_knownTo := fun _ h => List.mem_cons_of_mem _ (List.mem_append_left _ (List.mem_append_left _ (List.mem_append_left _ (List.mem_append_right _ h))))
  unfold fX0_knownTo at h
  refine lv_aload_n hx hb dX0_knownTo_0 rfl (lv_at hl 0 rfl) ?_
  refine gX_book_held hx hb hts hnX0 hown hK hP hw0 dX0_knownTo_1 ?_
  refine lv_iconst (v := -1) hx hb dX0_knownTo_4 (by decide) ?_
  obtain ⟨f1, ef1, h⟩ := bd1_use h
  refine cf_v (w1 := (wX cB cI cJ cZ a (a 35) (a 4) ww_latestFault tp_bytes tp_size rd_fault rd_faultPlace rd_kind rd_start rd_at rd_number dr_letterMarks dr_names dr_spelled dr_rows dr_alike dr_near dr_asks dr_letters dr_words dr_askCount sh_lanes sh_sizes sh_cells la_xs la_ys la_heights la_ridgeXs la_ridgeHeights la_way la_blurs la_steps la_places la_ridges la_wayBlur la_wayLength bk_times bk_froms bk_asks bk_words bk_firsts bk_lies f1 bk_size nu_learned nu_size to_letterMarks to_names to_spelled to_rows to_alike to_near to_asks to_letters to_words to_askCount)) (rest := []) ⟨hx, hb, hml, hown, hts⟩ (kJ7_fill_53178 l n dC dI cB cI cJ cZ (a 32) _ 30 bk_held (-1 : Int32) f1 ef1) (va_cwS 2 hts gX0_knownTo_J7_fill_53178 rfl rfl rfl (by decide +kernel) ⟨Nat.le_of_ble_eq_true rfl, Nat.le_of_ble_eq_true rfl⟩) hK hP hD hS hA 32 rfl rfl hl.1 rfl (Nat.le_of_ble_eq_true rfl) dX0_knownTo_5 ⟨Nat.zero_le _, Nat.zero_le _⟩ (fun H locs hP hD hS => ?_)
  refine lv_iconst (v := 0) hx hb dX0_knownTo_8 (by decide) ?_
  refine lv_istore (lv' := [(5, .int (0 : Int32)), (0, .ref (a 25)), (1, .int x1), (2, .int x2), (3, .int x3), (4, .ref (a 35))]) hx hb dX0_knownTo_9 hl (by decide) rfl (fun ls hl => ?_)
  refine lv_iconst (v := 0) hx hb dX0_knownTo_11 (by decide) ?_
  refine lv_istore (lv' := [(6, .int (0 : Int32)), (5, .int (0 : Int32)), (0, .ref (a 25)), (1, .int x1), (2, .int x2), (3, .int x3), (4, .ref (a 35))]) hx hb dX0_knownTo_12 hl (by decide) rfl (fun ls hl => ?_)
  exact kX0_knownTo_p14 dC dI cB cI cJ cZ a adK adV C0 n ww_latestFault tp_bytes tp_size rd_fault rd_faultPlace rd_kind rd_start rd_at rd_number dr_letterMarks dr_names dr_spelled dr_rows dr_alike dr_near dr_asks dr_letters dr_words dr_askCount sh_lanes sh_sizes sh_cells la_xs la_ys la_heights la_ridgeXs la_ridgeHeights la_way la_blurs la_steps la_places la_ridges la_wayBlur la_wayLength bk_times bk_froms bk_asks bk_words bk_firsts bk_lies f1 bk_size nu_learned nu_size to_letterMarks to_names to_spelled to_rows to_alike to_near to_asks to_letters to_words to_askCount x1 x2 x3 (0 : Int32) (0 : Int32) r0 z_bk_held  n _ _ ls h hP hD hS (lv_sub hl [2, 3, 4, 5, 6, 1, 0] rfl)
set_option maxHeartbeats 4000000 in
set_option maxRecDepth 100000 in
theorem kX8_knows (l : Launch) (n : Nat) (dC : Nat → ClassId) (dI : Nat → Nat → Nat) (cB cI cJ cZ : ClassId) (a : Nat → Nat) (adK adV : Nat → Nat) (sz : Nat) (ww_latestFault : Int32) (tp_bytes : Nat → Int32) (tp_size : Int32) (rd_fault : Int32) (rd_faultPlace : Int32) (rd_kind : Int32) (rd_start : Int32) (rd_at : Int32) (rd_number : Int32) (dr_letterMarks : Nat → Int32) (dr_names : Nat → Int64) (dr_spelled : Nat → Int32) (dr_rows : Nat → Int64) (dr_alike : Nat → Int32) (dr_near : Nat → Int32) (dr_asks : Nat → Int32) (dr_letters : Int32) (dr_words : Int32) (dr_askCount : Int32) (sh_lanes : Nat → Int32) (sh_sizes : Nat → Int32) (sh_cells : Nat → Int32) (la_xs : Nat → Int32) (la_ys : Nat → Int32) (la_heights : Nat → Int32) (la_ridgeXs : Nat → Int32) (la_ridgeHeights : Nat → Int32) (la_way : Nat → Int32) (la_blurs : Nat → Int32) (la_steps : Nat → Int32) (la_places : Int32) (la_ridges : Int32) (la_wayBlur : Int32) (la_wayLength : Int32) (bk_times : Nat → Int32) (bk_froms : Nat → Int32) (bk_asks : Nat → Int32) (bk_words : Nat → Int32) (bk_firsts : Nat → Int32) (bk_lies : Nat → Int32) (bk_held : Nat → Int32) (bk_size : Int32) (nu_learned : Nat → Int32) (nu_size : Int32) (to_letterMarks : Nat → Int32) (to_names : Nat → Int64) (to_spelled : Nat → Int32) (to_rows : Nat → Int64) (to_alike : Nat → Int32) (to_near : Nat → Int32) (to_asks : Nat → Int32) (to_letters : Int32) (to_words : Int32) (to_askCount : Int32) (x1 : Int32) (x2 : Int32) (x3 : Int32) (x4 : Int32) (r0 : Int32) (z_bk_held : Nat → Int32) (h : fX8_knows n sh_lanes sh_sizes sh_cells la_xs la_ys la_heights la_ridgeXs la_ridgeHeights la_places la_ridges bk_times bk_froms bk_asks bk_words bk_firsts bk_lies bk_held bk_size to_alike to_asks to_askCount x1 x2 x3 x4 = some (r0, z_bk_held)) : Met l yX8_knows wsX8_knows ({ frames := 6, cells := 0, slots := 0, locals := 147 }) (gP (dC, dI) (tyz cB cI cJ cZ) (E_X adK adV) (wX cB cI cJ cZ a (a 35) (a 4) ww_latestFault tp_bytes tp_size rd_fault rd_faultPlace rd_kind rd_start rd_at rd_number dr_letterMarks dr_names dr_spelled dr_rows dr_alike dr_near dr_asks dr_letters dr_words dr_askCount sh_lanes sh_sizes sh_cells la_xs la_ys la_heights la_ridgeXs la_ridgeHeights la_way la_blurs la_steps la_places la_ridges la_wayBlur la_wayLength bk_times bk_froms bk_asks bk_words bk_firsts bk_lies bk_held bk_size nu_learned nu_size to_letterMarks to_names to_spelled to_rows to_alike to_near to_asks to_letters to_words to_askCount) sz [.ref (a 0), .int x1, .int x2, .int x3, .int x4]) (gI (dC, dI) (tyz cB cI cJ cZ) (wX cB cI cJ cZ a (a 35) (a 4) ww_latestFault tp_bytes tp_size rd_fault rd_faultPlace rd_kind rd_start rd_at rd_number dr_letterMarks dr_names dr_spelled dr_rows dr_alike dr_near dr_asks dr_letters dr_words dr_askCount sh_lanes sh_sizes sh_cells la_xs la_ys la_heights la_ridgeXs la_ridgeHeights la_way la_blurs la_steps la_places la_ridges la_wayBlur la_wayLength bk_times bk_froms bk_asks bk_words bk_firsts bk_lies z_bk_held bk_size nu_learned nu_size to_letterMarks to_names to_spelled to_rows to_alike to_near to_asks to_letters to_words to_askCount) (va_A (wX cB cI cJ cZ a (a 35) (a 4) ww_latestFault tp_bytes tp_size rd_fault rd_faultPlace rd_kind rd_start rd_at rd_number dr_letterMarks dr_names dr_spelled dr_rows dr_alike dr_near dr_asks dr_letters dr_words dr_askCount sh_lanes sh_sizes sh_cells la_xs la_ys la_heights la_ridgeXs la_ridgeHeights la_way la_blurs la_steps la_places la_ridges la_wayBlur la_wayLength bk_times bk_froms bk_asks bk_words bk_firsts bk_lies bk_held bk_size nu_learned nu_size to_letterMarks to_names to_spelled to_rows to_alike to_near to_asks to_letters to_words to_askCount) sz) r0) 0 0 (va_A (wX cB cI cJ cZ a (a 35) (a 4) ww_latestFault tp_bytes tp_size rd_fault rd_faultPlace rd_kind rd_start rd_at rd_number dr_letterMarks dr_names dr_spelled dr_rows dr_alike dr_near dr_asks dr_letters dr_words dr_askCount sh_lanes sh_sizes sh_cells la_xs la_ys la_heights la_ridgeXs la_ridgeHeights la_way la_blurs la_steps la_places la_ridges la_wayBlur la_wayLength bk_times bk_froms bk_asks bk_words bk_firsts bk_lies bk_held bk_size nu_learned nu_size to_letterMarks to_names to_spelled to_rows to_alike to_near to_asks to_letters to_words to_askCount) sz) := by
  refine Met.ofW (cc := cX8_knows) (maxL := 5) (ret := (some .int)) (by decide) rfl ?_
  intro p e s m args below meth c s₁ B hml hv
  obtain ⟨rfl, hsz, hP, hK, hD0, hE⟩ := hv
  have hx := B.exec
  have hb := B.bytes
  have hr := B.returns
  have hts := atoms_spec (ws := wsX8_knows) B.pre
  have hown : s.vm.findClass RX8 = some m.cls := findClass_of_methodNamed B.named
  have hlocks := B.notSynchronized
  subst hsz
  have hD := hD0.self (sz := s.heap.size)
  have hA : ∀ q : Nat, s.heap.size ≤ q → va_A (wX cB cI cJ cZ a (a 35) (a 4) ww_latestFault tp_bytes tp_size rd_fault rd_faultPlace rd_kind rd_start rd_at rd_number dr_letterMarks dr_names dr_spelled dr_rows dr_alike dr_near dr_asks dr_letters dr_words dr_askCount sh_lanes sh_sizes sh_cells la_xs la_ys la_heights la_ridgeXs la_ridgeHeights la_way la_blurs la_steps la_places la_ridges la_wayBlur la_wayLength bk_times bk_froms bk_asks bk_words bk_firsts bk_lies bk_held bk_size nu_learned nu_size to_letterMarks to_names to_spelled to_rows to_alike to_near to_asks to_letters to_words to_askCount) s.heap.size q := fun q h => Or.inr h
  generalize va_A (wX cB cI cJ cZ a (a 35) (a 4) ww_latestFault tp_bytes tp_size rd_fault rd_faultPlace rd_kind rd_start rd_at rd_number dr_letterMarks dr_names dr_spelled dr_rows dr_alike dr_near dr_asks dr_letters dr_words dr_askCount sh_lanes sh_sizes sh_cells la_xs la_ys la_heights la_ridgeXs la_ridgeHeights la_way la_blurs la_steps la_places la_ridges la_wayBlur la_wayLength bk_times bk_froms bk_asks bk_words bk_firsts bk_lies bk_held bk_size nu_learned nu_size to_letterMarks to_names to_spelled to_rows to_alike to_near to_asks to_letters to_words to_askCount) s.heap.size = A at hD hA hE ⊢
  have hS : va_S A s.heap s.heap [] := va_S.rf
  have C0 : cxt cX8_knows (some .int) 5 RX8 wsX8_knows (dC, dI) (tyz cB cI cJ cZ) (E_X adK adV) A p s m ([.ref (a 0), .int x1, .int x2, .int x3, .int x4] : List Value).toArray meth c := ⟨hx, hb, hr, hml, hown, hts, hlocks, hK, hA, hE⟩
  have hl := lv_entry ([.ref (a 0), .int x1, .int x2, .int x3, .int x4]) (n := 5) (Nat.le_of_ble_eq_true rfl)
  rw [lg_entry_eq]
  generalize (lg_sl ([.ref (a 0), .int x1, .int x2, .int x3, .int x4]) ++ List.replicate (5 - (lg_sl ([.ref (a 0), .int x1, .int x2, .int x3, .int x4])).length) Slot.unset).toArray = ls at hl ⊢
  have hl : lv_has ls 5 [(0, .ref (a 0)), (1, .int x1), (2, .int x2), (3, .int x3), (4, .int x4)] := hl
  have hw0 := hts (.fieldLink RX8 37 "WhistledWords" "land" "LWhistledWords$Land;") (by decide +kernel)
  have hw1 := hts (.fieldLink RX8 60 "WhistledWords" "told" "LWhistledWords$Tongue;") (by decide +kernel)
  have hw2 := hts (.fieldLink RX8 46 "WhistledWords" "book" "LWhistledWords$Book;") (by decide +kernel)
  have hnX8 : ∀ w ∈ u_ws RX8 TX8 8, w ∈ wsX8_knows := fun _ h => List.mem_cons_of_mem _ (List.mem_append_left _ (List.mem_append_left _ (List.mem_append_left _ (List.mem_append_left _ (List.mem_append_right _ h)))))
  unfold fX8_knows at h
  refine lv_aload_n hx hb dX8_knows_0 rfl (lv_at hl 0 rfl) ?_
  refine gX_ww_land hx hb hts hnX8 hown hK hP hw0 dX8_knows_1 ?_
  refine lv_iload_n hx hb dX8_knows_4 rfl (lv_at hl 1 rfl) ?_
  obtain ⟨v1, hc, h⟩ := bd1_use h
  refine cv_i (As := [.int x1]) (rest := []) ⟨hx, hb, hml, hown, hts⟩ (kX1_isPlace l n dC dI cB cI cJ cZ a adK adV _ ww_latestFault tp_bytes tp_size rd_fault rd_faultPlace rd_kind rd_start rd_at rd_number dr_letterMarks dr_names dr_spelled dr_rows dr_alike dr_near dr_asks dr_letters dr_words dr_askCount sh_lanes sh_sizes sh_cells la_xs la_ys la_heights la_ridgeXs la_ridgeHeights la_way la_blurs la_steps la_places la_ridges la_wayBlur la_wayLength bk_times bk_froms bk_asks bk_words bk_firsts bk_lies bk_held bk_size nu_learned nu_size to_letterMarks to_names to_spelled to_rows to_alike to_near to_asks to_letters to_words to_askCount x1 v1 hc) (cwV 1 hts gX8_knows_X1_isPlace rfl rfl rfl (by decide +kernel) ⟨Nat.le_of_ble_eq_true rfl, Nat.le_of_ble_eq_true rfl⟩) EB_X hE hK hP hD hS hA 16 (ci := 1) rfl rfl rfl rfl hl.1 rfl (Nat.le_of_ble_eq_true rfl) dX8_knows_5 ⟨Nat.zero_le _, Nat.zero_le _⟩ (fun H locs hP hD hS => ?_)
  refine lv_if_eq (tgt := 31) hx hb dX8_knows_8 (by decide) (fun c2 => ?_) (fun c2 => ?_)
  · have h := it_use c2 h
    refine lv_iconst (v := -1) hx hb dX8_knows_31 (by decide) ?_
    obtain ⟨er, ez0⟩ := rt2_use h
    subst ez0
    exact re_i hx hb hr hlocks hK hP hD hS er dX8_knows_32
  · have h := ie_use c2 h
    refine lv_aload_n hx hb dX8_knows_11 rfl (lv_at hl 0 rfl) ?_
    refine gX_ww_told hx hb hts hnX8 hown hK hP hw1 dX8_knows_12 ?_
    refine lv_iload_n hx hb dX8_knows_15 rfl (lv_at hl 2 rfl) ?_
    obtain ⟨v3, hc, h⟩ := bd1_use h
    refine cv_i (As := [.int x2]) (rest := []) ⟨hx, hb, hml, hown, hts⟩ (kX7_isAsk l n dC dI cB cI cJ cZ a adK adV _ ww_latestFault tp_bytes tp_size rd_fault rd_faultPlace rd_kind rd_start rd_at rd_number dr_letterMarks dr_names dr_spelled dr_rows dr_alike dr_near dr_asks dr_letters dr_words dr_askCount sh_lanes sh_sizes sh_cells la_xs la_ys la_heights la_ridgeXs la_ridgeHeights la_way la_blurs la_steps la_places la_ridges la_wayBlur la_wayLength bk_times bk_froms bk_asks bk_words bk_firsts bk_lies bk_held bk_size nu_learned nu_size to_letterMarks to_names to_spelled to_rows to_alike to_near to_asks to_letters to_words to_askCount x2 v3 hc) (cwV 1 hts gX8_knows_X7_isAsk rfl rfl rfl (by decide +kernel) ⟨Nat.le_of_ble_eq_true rfl, Nat.le_of_ble_eq_true rfl⟩) EB_X hE hK hP hD hS hA 35 (ci := 6) rfl rfl rfl rfl hl.1 rfl (Nat.le_of_ble_eq_true rfl) dX8_knows_16 ⟨Nat.zero_le _, Nat.zero_le _⟩ (fun H locs hP hD hS => ?_)
    refine lv_if_eq (tgt := 31) hx hb dX8_knows_19 (by decide) (fun c4 => ?_) (fun c4 => ?_)
    · have h := it_use c4 h
      refine lv_iconst (v := -1) hx hb dX8_knows_31 (by decide) ?_
      obtain ⟨er, ez0⟩ := rt2_use h
      subst ez0
      exact re_i hx hb hr hlocks hK hP hD hS er dX8_knows_32
    · have h := ie_use c4 h
      refine lv_iload_n hx hb dX8_knows_22 rfl (lv_at hl 3 rfl) ?_
      refine lv_iload hx hb dX8_knows_23 (lv_at hl 4 rfl) ?_
      obtain ⟨v5, hc, h⟩ := bd1_use h
      refine cs_i (As := [.int x3, .int x4]) (rest := []) ⟨hx, hb, hml, hown, hts⟩ (kX8_isTime l n x3 x4 v5 hc) (va_cwS 2 hts gX8_knows_X8_isTime rfl rfl rfl (by decide +kernel) ⟨Nat.le_of_ble_eq_true rfl, Nat.le_of_ble_eq_true rfl⟩) hP hS rfl hl.1 rfl (Nat.le_of_ble_eq_true rfl) dX8_knows_25 ⟨Nat.zero_le _, Nat.zero_le _⟩ (fun H locs hP hS => ?_)
      refine lv_if_ne (tgt := 33) hx hb dX8_knows_28 (by decide) (fun c6 => ?_) (fun c6 => ?_)
      · have h := ie_use c6 h
        refine lv_aload_n hx hb dX8_knows_33 rfl (lv_at hl 0 rfl) ?_
        refine gX_ww_book hx hb hts hnX8 hown hK hP hw2 dX8_knows_34 ?_
        refine lv_iload_n hx hb dX8_knows_37 rfl (lv_at hl 1 rfl) ?_
        refine lv_iload_n hx hb dX8_knows_38 rfl (lv_at hl 2 rfl) ?_
        refine lv_aload_n hx hb dX8_knows_39 rfl (lv_at hl 0 rfl) ?_
        refine gX_ww_book hx hb hts hnX8 hown hK hP hw2 dX8_knows_40 ?_
        refine lv_iload_n hx hb dX8_knows_43 rfl (lv_at hl 3 rfl) ?_
        refine lv_iload hx hb dX8_knows_44 (lv_at hl 4 rfl) ?_
        obtain ⟨v7, hc, h⟩ := bd1_use h
        refine cs_i (As := [.int x3, .int x4]) (rest := [.ref (a 25), .int x2, .int x1, .ref (a 25)]) ⟨hx, hb, hml, hown, hts⟩ (kX8_timeOf l n x3 x4 v7 hc) (va_cwS 2 hts gX8_knows_X8_timeOf rfl rfl rfl (by decide +kernel) ⟨Nat.le_of_ble_eq_true rfl, Nat.le_of_ble_eq_true rfl⟩) hP hS rfl hl.1 rfl (Nat.le_of_ble_eq_true rfl) dX8_knows_46 ⟨Nat.zero_le _, Nat.zero_le _⟩ (fun H locs hP hS => ?_)
        obtain ⟨v8, hc, h⟩ := bd1_use h
        refine cv_i (As := [.int v7]) (rest := [.int x2, .int x1, .ref (a 25)]) ⟨hx, hb, hml, hown, hts⟩ (kX0_callsUpTo l n dC dI cB cI cJ cZ a adK adV _ ww_latestFault tp_bytes tp_size rd_fault rd_faultPlace rd_kind rd_start rd_at rd_number dr_letterMarks dr_names dr_spelled dr_rows dr_alike dr_near dr_asks dr_letters dr_words dr_askCount sh_lanes sh_sizes sh_cells la_xs la_ys la_heights la_ridgeXs la_ridgeHeights la_way la_blurs la_steps la_places la_ridges la_wayBlur la_wayLength bk_times bk_froms bk_asks bk_words bk_firsts bk_lies bk_held bk_size nu_learned nu_size to_letterMarks to_names to_spelled to_rows to_alike to_near to_asks to_letters to_words to_askCount v7 v8 hc) (cwV 1 hts gX8_knows_X0_callsUpTo rfl rfl rfl (by decide +kernel) ⟨Nat.le_of_ble_eq_true rfl, Nat.le_of_ble_eq_true rfl⟩) EB_X hE hK hP hD hS hA 25 (ci := 0) rfl rfl rfl rfl hl.1 rfl (Nat.le_of_ble_eq_true rfl) dX8_knows_49 ⟨Nat.zero_le _, Nat.zero_le _⟩ (fun H locs hP hD hS => ?_)
        refine lv_aload_n hx hb dX8_knows_52 rfl (lv_at hl 0 rfl) ?_
        refine gX_ww_told hx hb hts hnX8 hown hK hP hw1 dX8_knows_53 ?_
        obtain ⟨v9, f10, hc, h⟩ := bd2_use h
        refine cv_i (As := [.int x1, .int x2, .int v8, .ref (a 35)]) (rest := []) ⟨hx, hb, hml, hown, hts⟩ (kX0_knownTo l n dC dI cB cI cJ cZ a adK adV _ ww_latestFault tp_bytes tp_size rd_fault rd_faultPlace rd_kind rd_start rd_at rd_number dr_letterMarks dr_names dr_spelled dr_rows dr_alike dr_near dr_asks dr_letters dr_words dr_askCount sh_lanes sh_sizes sh_cells la_xs la_ys la_heights la_ridgeXs la_ridgeHeights la_way la_blurs la_steps la_places la_ridges la_wayBlur la_wayLength bk_times bk_froms bk_asks bk_words bk_firsts bk_lies bk_held bk_size nu_learned nu_size to_letterMarks to_names to_spelled to_rows to_alike to_near to_asks to_letters to_words to_askCount x1 x2 v8 v9 f10 hc) (cwV 4 hts gX8_knows_X0_knownTo rfl rfl rfl (by decide +kernel) ⟨Nat.le_of_ble_eq_true rfl, Nat.le_of_ble_eq_true rfl⟩) EB_X hE hK hP hD hS hA 25 (ci := 0) rfl rfl rfl rfl hl.1 rfl (Nat.le_of_ble_eq_true rfl) dX8_knows_56 ⟨Nat.zero_le _, Nat.zero_le _⟩ (fun H locs hP hD hS => ?_)
        obtain ⟨er, ez0⟩ := rt2_use h
        subst ez0
        exact re_i hx hb hr hlocks hK hP hD hS er dX8_knows_59
      · have h := it_use c6 h
        refine lv_iconst (v := -1) hx hb dX8_knows_31 (by decide) ?_
        obtain ⟨er, ez0⟩ := rt2_use h
        subst ez0
        exact re_i hx hb hr hlocks hK hP hD hS er dX8_knows_32
set_option maxHeartbeats 4000000 in
set_option maxRecDepth 100000 in
theorem kX0_firstKnown_p11_r {p : Program} {l : Launch} {e : Env} {s : State} {m : MethodId} {args : Array Value} {below : List Frame} {meth : Method} {c : Code} {A : Nat → Prop} (dC : Nat → ClassId) (dI : Nat → Nat → Nat) (cB cI cJ cZ : ClassId) (a : Nat → Nat) (adK adV : Nat → Nat) (C0 : cxt cX0_firstKnown (some .int) 6 RX0 wsX0_firstKnown (dC, dI) (tyz cB cI cJ cZ) (E_X adK adV) A p s m args meth c) (n : Nat) (ww_latestFault : Int32) (tp_bytes : Nat → Int32) (tp_size : Int32) (rd_fault : Int32) (rd_faultPlace : Int32) (rd_kind : Int32) (rd_start : Int32) (rd_at : Int32) (rd_number : Int32) (dr_letterMarks : Nat → Int32) (dr_names : Nat → Int64) (dr_spelled : Nat → Int32) (dr_rows : Nat → Int64) (dr_alike : Nat → Int32) (dr_near : Nat → Int32) (dr_asks : Nat → Int32) (dr_letters : Int32) (dr_words : Int32) (dr_askCount : Int32) (sh_lanes : Nat → Int32) (sh_sizes : Nat → Int32) (sh_cells : Nat → Int32) (la_xs : Nat → Int32) (la_ys : Nat → Int32) (la_heights : Nat → Int32) (la_ridgeXs : Nat → Int32) (la_ridgeHeights : Nat → Int32) (la_way : Nat → Int32) (la_blurs : Nat → Int32) (la_steps : Nat → Int32) (la_places : Int32) (la_ridges : Int32) (la_wayBlur : Int32) (la_wayLength : Int32) (bk_times : Nat → Int32) (bk_froms : Nat → Int32) (bk_asks : Nat → Int32) (bk_words : Nat → Int32) (bk_firsts : Nat → Int32) (bk_lies : Nat → Int32) (bk_size : Int32) (nu_learned : Nat → Int32) (nu_size : Int32) (to_letterMarks : Nat → Int32) (to_names : Nat → Int64) (to_spelled : Nat → Int32) (to_rows : Nat → Int64) (to_alike : Nat → Int32) (to_near : Nat → Int32) (to_asks : Nat → Int32) (to_letters : Int32) (to_words : Int32) (to_askCount : Int32) (x1 : Int32) (x2 : Int32) (x3 : Int32) (r0 : Int32) (z_bk_held : Nat → Int32)  : ∀ (k : Nat) (bk_held : Nat → Int32) (x5 : Int32) (H : Heap) (locs : List Loc) (ls : Array Slot), fX0_firstKnown_p11 n sh_lanes sh_sizes sh_cells la_xs la_ys la_heights la_ridgeXs la_ridgeHeights la_ridges bk_times bk_froms bk_asks bk_words bk_firsts bk_lies bk_size to_alike to_asks x1 x2 x3 k bk_held x5 = some (r0, z_bk_held) → va_P (dC, dI) vwCl (wX cB cI cJ cZ a (a 35) (a 4) ww_latestFault tp_bytes tp_size rd_fault rd_faultPlace rd_kind rd_start rd_at rd_number dr_letterMarks dr_names dr_spelled dr_rows dr_alike dr_near dr_asks dr_letters dr_words dr_askCount sh_lanes sh_sizes sh_cells la_xs la_ys la_heights la_ridgeXs la_ridgeHeights la_way la_blurs la_steps la_places la_ridges la_wayBlur la_wayLength bk_times bk_froms bk_asks bk_words bk_firsts bk_lies bk_held bk_size nu_learned nu_size to_letterMarks to_names to_spelled to_rows to_alike to_near to_asks to_letters to_words to_askCount) H → va_D A (wX cB cI cJ cZ a (a 35) (a 4) ww_latestFault tp_bytes tp_size rd_fault rd_faultPlace rd_kind rd_start rd_at rd_number dr_letterMarks dr_names dr_spelled dr_rows dr_alike dr_near dr_asks dr_letters dr_words dr_askCount sh_lanes sh_sizes sh_cells la_xs la_ys la_heights la_ridgeXs la_ridgeHeights la_way la_blurs la_steps la_places la_ridges la_wayBlur la_wayLength bk_times bk_froms bk_asks bk_words bk_firsts bk_lies bk_held bk_size nu_learned nu_size to_letterMarks to_names to_spelled to_rows to_alike to_near to_asks to_letters to_words to_askCount) → va_S A s.heap H locs → lv_has ls 6 [(0, .ref (a 25)), (1, .int x1), (2, .int x2), (3, .int x3), (4, .ref (a 35)), (5, .int x5)] → W p l e { frames := 5, cells := 0, slots := 0, locals := 121 } s m args below meth c H locs 0 0 (MQ below (gI (dC, dI) (tyz cB cI cJ cZ) (wX cB cI cJ cZ a (a 35) (a 4) ww_latestFault tp_bytes tp_size rd_fault rd_faultPlace rd_kind rd_start rd_at rd_number dr_letterMarks dr_names dr_spelled dr_rows dr_alike dr_near dr_asks dr_letters dr_words dr_askCount sh_lanes sh_sizes sh_cells la_xs la_ys la_heights la_ridgeXs la_ridgeHeights la_way la_blurs la_steps la_places la_ridges la_wayBlur la_wayLength bk_times bk_froms bk_asks bk_words bk_firsts bk_lies z_bk_held bk_size nu_learned nu_size to_letterMarks to_names to_spelled to_rows to_alike to_near to_asks to_letters to_words to_askCount) A r0) args s 0 0 A) (F0 m 11 ls []) := by
  obtain ⟨hx, hb, hr, hml, hown, hts, hlocks, hK, hA, hE⟩ := id C0
  have hw0 := hts (.fieldLink RX0 38 "WhistledWords$Book" "size" "I") (by decide +kernel)
  have hw1 := hts (.fieldLink RX0 22 "WhistledWords$Book" "asks" "[I") (by decide +kernel)
  have hw2 := hts (.fieldLink RX0 25 "WhistledWords$Book" "words" "[I") (by decide +kernel)
  have hnX0 : ∀ w ∈ u_ws RX0 TX0 9, w ∈ wsX0_firstKnown := fun _ h => List.mem_cons_of_mem _ (List.mem_append_left _ (List.mem_append_left _ (List.mem_append_left _ (List.mem_append_right _ h))))
  intro k
  induction k with
  | zero =>
    intro bk_held x5 H locs ls h
    cases h
  | succ k ih =>
    intro bk_held x5 H locs ls h hP hD hS hl
    rw [fX0_firstKnown_p11] at h
    refine lv_iload hx hb dX0_firstKnown_11 (lv_at hl 5 rfl) ?_
    refine lv_aload_n hx hb dX0_firstKnown_13 rfl (lv_at hl 0 rfl) ?_
    refine gX_book_size hx hb hts hnX0 hown hK hP hw0 dX0_firstKnown_14 ?_
    refine lv_icmp_ge (tgt := 63) hx hb dX0_firstKnown_17 (by decide) (fun c1 => ?_) (fun c1 => ?_)
    · have h := it_use c1 h
      refine lv_bipush (v := -4) hx hb dX0_firstKnown_63 (by decide) ?_
      obtain ⟨er, ez0⟩ := rt2_use h
      subst ez0
      exact re_i hx hb hr hlocks hK hP hD hS er dX0_firstKnown_65
    · have h := ie_use c1 h
      refine lv_aload_n hx hb dX0_firstKnown_20 rfl (lv_at hl 0 rfl) ?_
      refine gX_book_asks hx hb hts hnX0 hown hK hP hw1 dX0_firstKnown_21 ?_
      refine lv_iload hx hb dX0_firstKnown_24 (lv_at hl 5 rfl) ?_
      obtain ⟨hiv2, h⟩ := ar_use h
      refine lX_book_asks hx hb hK hP hiv2 dX0_firstKnown_26 ?_
      refine lv_topi (fun v2 ev2 => ?_)
      have h := h v2 ev2
      refine lv_iload_n hx hb dX0_firstKnown_27 rfl (lv_at hl 2 rfl) ?_
      refine lv_icmp_ne (tgt := 57) hx hb dX0_firstKnown_28 (by decide) (fun c3 => ?_) (fun c3 => ?_)
      · have h := ie_use c3 h
        refine lv_iinc (v := x5 + 1) (lv' := [(5, .int (x5 + 1)), (0, .ref (a 25)), (1, .int x1), (2, .int x2), (3, .int x3), (4, .ref (a 35))]) hx hb dX0_firstKnown_57 hl (k := 5) rfl rfl (by decide) rfl (fun ls hl => ?_)
        refine lv_goto (tgt := 11) hx hb dX0_firstKnown_60 (by decide) ?_
        exact ih bk_held (x5 + 1) _ _ ls h hP hD hS (lv_sub hl [1, 2, 3, 4, 5, 0] rfl)
      · have h := it_use c3 h
        refine lv_aload_n hx hb dX0_firstKnown_31 rfl (lv_at hl 0 rfl) ?_
        refine gX_book_words hx hb hts hnX0 hown hK hP hw2 dX0_firstKnown_32 ?_
        refine lv_iload hx hb dX0_firstKnown_35 (lv_at hl 5 rfl) ?_
        obtain ⟨hiv4, h⟩ := ar_use h
        refine lX_book_words hx hb hK hP hiv4 dX0_firstKnown_37 ?_
        refine lv_topi (fun v4 ev4 => ?_)
        have h := h v4 ev4
        refine lv_iload_n hx hb dX0_firstKnown_38 rfl (lv_at hl 3 rfl) ?_
        refine lv_icmp_ne (tgt := 57) hx hb dX0_firstKnown_39 (by decide) (fun c5 => ?_) (fun c5 => ?_)
        · have h := ie_use c5 h
          refine lv_iinc (v := x5 + 1) (lv' := [(5, .int (x5 + 1)), (0, .ref (a 25)), (1, .int x1), (2, .int x2), (3, .int x3), (4, .ref (a 35))]) hx hb dX0_firstKnown_57 hl (k := 5) rfl rfl (by decide) rfl (fun ls hl => ?_)
          refine lv_goto (tgt := 11) hx hb dX0_firstKnown_60 (by decide) ?_
          exact ih bk_held (x5 + 1) _ _ ls h hP hD hS (lv_sub hl [1, 2, 3, 4, 5, 0] rfl)
        · have h := it_use c5 h
          refine lv_aload_n hx hb dX0_firstKnown_42 rfl (lv_at hl 0 rfl) ?_
          refine lv_iload_n hx hb dX0_firstKnown_43 rfl (lv_at hl 1 rfl) ?_
          refine lv_iload hx hb dX0_firstKnown_44 (lv_at hl 5 rfl) ?_
          refine lv_aload hx hb dX0_firstKnown_46 (lv_at hl 4 rfl) ?_
          obtain ⟨v6, f7, hc, h⟩ := bd2_use h
          refine cv_i (As := [.int x1, .int x5, .ref (a 35)]) (rest := []) ⟨hx, hb, hml, hown, hts⟩ (kX0_settlesWord l n dC dI cB cI cJ cZ a adK adV _ ww_latestFault tp_bytes tp_size rd_fault rd_faultPlace rd_kind rd_start rd_at rd_number dr_letterMarks dr_names dr_spelled dr_rows dr_alike dr_near dr_asks dr_letters dr_words dr_askCount sh_lanes sh_sizes sh_cells la_xs la_ys la_heights la_ridgeXs la_ridgeHeights la_way la_blurs la_steps la_places la_ridges la_wayBlur la_wayLength bk_times bk_froms bk_asks bk_words bk_firsts bk_lies bk_held bk_size nu_learned nu_size to_letterMarks to_names to_spelled to_rows to_alike to_near to_asks to_letters to_words to_askCount x1 x5 v6 f7 hc) (cwV 3 hts gX0_firstKnown_X0_settlesWord rfl rfl rfl (by decide +kernel) ⟨Nat.le_of_ble_eq_true rfl, Nat.le_of_ble_eq_true rfl⟩) EB_X hE hK hP hD hS hA 25 (ci := 0) rfl rfl rfl rfl hl.1 rfl (Nat.le_of_ble_eq_true rfl) dX0_firstKnown_48 ⟨Nat.zero_le _, Nat.zero_le _⟩ (fun H locs hP hD hS => ?_)
          refine lv_if_eq (tgt := 57) hx hb dX0_firstKnown_51 (by decide) (fun c8 => ?_) (fun c8 => ?_)
          · have h := it_use c8 h
            refine lv_iinc (v := x5 + 1) (lv' := [(5, .int (x5 + 1)), (0, .ref (a 25)), (1, .int x1), (2, .int x2), (3, .int x3), (4, .ref (a 35))]) hx hb dX0_firstKnown_57 hl (k := 5) rfl rfl (by decide) rfl (fun ls hl => ?_)
            refine lv_goto (tgt := 11) hx hb dX0_firstKnown_60 (by decide) ?_
            exact ih f7 (x5 + 1) _ _ ls h hP hD hS (lv_sub hl [1, 2, 3, 4, 5, 0] rfl)
          · have h := ie_use c8 h
            refine lv_iload hx hb dX0_firstKnown_54 (lv_at hl 5 rfl) ?_
            obtain ⟨er, ez0⟩ := rt2_use h
            subst ez0
            exact re_i hx hb hr hlocks hK hP hD hS er dX0_firstKnown_56
theorem kX0_firstKnown_p11 {p : Program} {l : Launch} {e : Env} {s : State} {m : MethodId} {args : Array Value} {below : List Frame} {meth : Method} {c : Code} {A : Nat → Prop} (dC : Nat → ClassId) (dI : Nat → Nat → Nat) (cB cI cJ cZ : ClassId) (a : Nat → Nat) (adK adV : Nat → Nat) (C0 : cxt cX0_firstKnown (some .int) 6 RX0 wsX0_firstKnown (dC, dI) (tyz cB cI cJ cZ) (E_X adK adV) A p s m args meth c) (n : Nat) (ww_latestFault : Int32) (tp_bytes : Nat → Int32) (tp_size : Int32) (rd_fault : Int32) (rd_faultPlace : Int32) (rd_kind : Int32) (rd_start : Int32) (rd_at : Int32) (rd_number : Int32) (dr_letterMarks : Nat → Int32) (dr_names : Nat → Int64) (dr_spelled : Nat → Int32) (dr_rows : Nat → Int64) (dr_alike : Nat → Int32) (dr_near : Nat → Int32) (dr_asks : Nat → Int32) (dr_letters : Int32) (dr_words : Int32) (dr_askCount : Int32) (sh_lanes : Nat → Int32) (sh_sizes : Nat → Int32) (sh_cells : Nat → Int32) (la_xs : Nat → Int32) (la_ys : Nat → Int32) (la_heights : Nat → Int32) (la_ridgeXs : Nat → Int32) (la_ridgeHeights : Nat → Int32) (la_way : Nat → Int32) (la_blurs : Nat → Int32) (la_steps : Nat → Int32) (la_places : Int32) (la_ridges : Int32) (la_wayBlur : Int32) (la_wayLength : Int32) (bk_times : Nat → Int32) (bk_froms : Nat → Int32) (bk_asks : Nat → Int32) (bk_words : Nat → Int32) (bk_firsts : Nat → Int32) (bk_lies : Nat → Int32) (bk_held : Nat → Int32) (bk_size : Int32) (nu_learned : Nat → Int32) (nu_size : Int32) (to_letterMarks : Nat → Int32) (to_names : Nat → Int64) (to_spelled : Nat → Int32) (to_rows : Nat → Int64) (to_alike : Nat → Int32) (to_near : Nat → Int32) (to_asks : Nat → Int32) (to_letters : Int32) (to_words : Int32) (to_askCount : Int32)  (x1 : Int32) (x2 : Int32) (x3 : Int32) (x5 : Int32) (r0 : Int32) (z_bk_held : Nat → Int32)  (k : Nat) (H : Heap) (locs : List Loc) (ls : Array Slot) : fX0_firstKnown_p11 n sh_lanes sh_sizes sh_cells la_xs la_ys la_heights la_ridgeXs la_ridgeHeights la_ridges bk_times bk_froms bk_asks bk_words bk_firsts bk_lies bk_size to_alike to_asks x1 x2 x3 k bk_held x5 = some (r0, z_bk_held) → va_P (dC, dI) vwCl (wX cB cI cJ cZ a (a 35) (a 4) ww_latestFault tp_bytes tp_size rd_fault rd_faultPlace rd_kind rd_start rd_at rd_number dr_letterMarks dr_names dr_spelled dr_rows dr_alike dr_near dr_asks dr_letters dr_words dr_askCount sh_lanes sh_sizes sh_cells la_xs la_ys la_heights la_ridgeXs la_ridgeHeights la_way la_blurs la_steps la_places la_ridges la_wayBlur la_wayLength bk_times bk_froms bk_asks bk_words bk_firsts bk_lies bk_held bk_size nu_learned nu_size to_letterMarks to_names to_spelled to_rows to_alike to_near to_asks to_letters to_words to_askCount) H → va_D A (wX cB cI cJ cZ a (a 35) (a 4) ww_latestFault tp_bytes tp_size rd_fault rd_faultPlace rd_kind rd_start rd_at rd_number dr_letterMarks dr_names dr_spelled dr_rows dr_alike dr_near dr_asks dr_letters dr_words dr_askCount sh_lanes sh_sizes sh_cells la_xs la_ys la_heights la_ridgeXs la_ridgeHeights la_way la_blurs la_steps la_places la_ridges la_wayBlur la_wayLength bk_times bk_froms bk_asks bk_words bk_firsts bk_lies bk_held bk_size nu_learned nu_size to_letterMarks to_names to_spelled to_rows to_alike to_near to_asks to_letters to_words to_askCount) → va_S A s.heap H locs → lv_has ls 6 [(0, .ref (a 25)), (1, .int x1), (2, .int x2), (3, .int x3), (4, .ref (a 35)), (5, .int x5)] → W p l e { frames := 5, cells := 0, slots := 0, locals := 121 } s m args below meth c H locs 0 0 (MQ below (gI (dC, dI) (tyz cB cI cJ cZ) (wX cB cI cJ cZ a (a 35) (a 4) ww_latestFault tp_bytes tp_size rd_fault rd_faultPlace rd_kind rd_start rd_at rd_number dr_letterMarks dr_names dr_spelled dr_rows dr_alike dr_near dr_asks dr_letters dr_words dr_askCount sh_lanes sh_sizes sh_cells la_xs la_ys la_heights la_ridgeXs la_ridgeHeights la_way la_blurs la_steps la_places la_ridges la_wayBlur la_wayLength bk_times bk_froms bk_asks bk_words bk_firsts bk_lies z_bk_held bk_size nu_learned nu_size to_letterMarks to_names to_spelled to_rows to_alike to_near to_asks to_letters to_words to_askCount) A r0) args s 0 0 A) (F0 m 11 ls []) :=
  kX0_firstKnown_p11_r dC dI cB cI cJ cZ a adK adV C0 n ww_latestFault tp_bytes tp_size rd_fault rd_faultPlace rd_kind rd_start rd_at rd_number dr_letterMarks dr_names dr_spelled dr_rows dr_alike dr_near dr_asks dr_letters dr_words dr_askCount sh_lanes sh_sizes sh_cells la_xs la_ys la_heights la_ridgeXs la_ridgeHeights la_way la_blurs la_steps la_places la_ridges la_wayBlur la_wayLength bk_times bk_froms bk_asks bk_words bk_firsts bk_lies bk_size nu_learned nu_size to_letterMarks to_names to_spelled to_rows to_alike to_near to_asks to_letters to_words to_askCount x1 x2 x3 r0 z_bk_held  k bk_held x5 H locs ls
set_option maxHeartbeats 4000000 in
set_option maxRecDepth 100000 in
theorem kX0_firstKnown (l : Launch) (n : Nat) (dC : Nat → ClassId) (dI : Nat → Nat → Nat) (cB cI cJ cZ : ClassId) (a : Nat → Nat) (adK adV : Nat → Nat) (sz : Nat) (ww_latestFault : Int32) (tp_bytes : Nat → Int32) (tp_size : Int32) (rd_fault : Int32) (rd_faultPlace : Int32) (rd_kind : Int32) (rd_start : Int32) (rd_at : Int32) (rd_number : Int32) (dr_letterMarks : Nat → Int32) (dr_names : Nat → Int64) (dr_spelled : Nat → Int32) (dr_rows : Nat → Int64) (dr_alike : Nat → Int32) (dr_near : Nat → Int32) (dr_asks : Nat → Int32) (dr_letters : Int32) (dr_words : Int32) (dr_askCount : Int32) (sh_lanes : Nat → Int32) (sh_sizes : Nat → Int32) (sh_cells : Nat → Int32) (la_xs : Nat → Int32) (la_ys : Nat → Int32) (la_heights : Nat → Int32) (la_ridgeXs : Nat → Int32) (la_ridgeHeights : Nat → Int32) (la_way : Nat → Int32) (la_blurs : Nat → Int32) (la_steps : Nat → Int32) (la_places : Int32) (la_ridges : Int32) (la_wayBlur : Int32) (la_wayLength : Int32) (bk_times : Nat → Int32) (bk_froms : Nat → Int32) (bk_asks : Nat → Int32) (bk_words : Nat → Int32) (bk_firsts : Nat → Int32) (bk_lies : Nat → Int32) (bk_held : Nat → Int32) (bk_size : Int32) (nu_learned : Nat → Int32) (nu_size : Int32) (to_letterMarks : Nat → Int32) (to_names : Nat → Int64) (to_spelled : Nat → Int32) (to_rows : Nat → Int64) (to_alike : Nat → Int32) (to_near : Nat → Int32) (to_asks : Nat → Int32) (to_letters : Int32) (to_words : Int32) (to_askCount : Int32) (x1 : Int32) (x2 : Int32) (x3 : Int32) (r0 : Int32) (z_bk_held : Nat → Int32) (h : fX0_firstKnown n sh_lanes sh_sizes sh_cells la_xs la_ys la_heights la_ridgeXs la_ridgeHeights la_ridges bk_times bk_froms bk_asks bk_words bk_firsts bk_lies bk_held bk_size to_alike to_asks x1 x2 x3 = some (r0, z_bk_held)) : Met l yX0_firstKnown wsX0_firstKnown ({ frames := 5, cells := 0, slots := 0, locals := 121 }) (gP (dC, dI) (tyz cB cI cJ cZ) (E_X adK adV) (wX cB cI cJ cZ a (a 35) (a 4) ww_latestFault tp_bytes tp_size rd_fault rd_faultPlace rd_kind rd_start rd_at rd_number dr_letterMarks dr_names dr_spelled dr_rows dr_alike dr_near dr_asks dr_letters dr_words dr_askCount sh_lanes sh_sizes sh_cells la_xs la_ys la_heights la_ridgeXs la_ridgeHeights la_way la_blurs la_steps la_places la_ridges la_wayBlur la_wayLength bk_times bk_froms bk_asks bk_words bk_firsts bk_lies bk_held bk_size nu_learned nu_size to_letterMarks to_names to_spelled to_rows to_alike to_near to_asks to_letters to_words to_askCount) sz [.ref (a 25), .int x1, .int x2, .int x3, .ref (a 35)]) (gI (dC, dI) (tyz cB cI cJ cZ) (wX cB cI cJ cZ a (a 35) (a 4) ww_latestFault tp_bytes tp_size rd_fault rd_faultPlace rd_kind rd_start rd_at rd_number dr_letterMarks dr_names dr_spelled dr_rows dr_alike dr_near dr_asks dr_letters dr_words dr_askCount sh_lanes sh_sizes sh_cells la_xs la_ys la_heights la_ridgeXs la_ridgeHeights la_way la_blurs la_steps la_places la_ridges la_wayBlur la_wayLength bk_times bk_froms bk_asks bk_words bk_firsts bk_lies z_bk_held bk_size nu_learned nu_size to_letterMarks to_names to_spelled to_rows to_alike to_near to_asks to_letters to_words to_askCount) (va_A (wX cB cI cJ cZ a (a 35) (a 4) ww_latestFault tp_bytes tp_size rd_fault rd_faultPlace rd_kind rd_start rd_at rd_number dr_letterMarks dr_names dr_spelled dr_rows dr_alike dr_near dr_asks dr_letters dr_words dr_askCount sh_lanes sh_sizes sh_cells la_xs la_ys la_heights la_ridgeXs la_ridgeHeights la_way la_blurs la_steps la_places la_ridges la_wayBlur la_wayLength bk_times bk_froms bk_asks bk_words bk_firsts bk_lies bk_held bk_size nu_learned nu_size to_letterMarks to_names to_spelled to_rows to_alike to_near to_asks to_letters to_words to_askCount) sz) r0) 0 0 (va_A (wX cB cI cJ cZ a (a 35) (a 4) ww_latestFault tp_bytes tp_size rd_fault rd_faultPlace rd_kind rd_start rd_at rd_number dr_letterMarks dr_names dr_spelled dr_rows dr_alike dr_near dr_asks dr_letters dr_words dr_askCount sh_lanes sh_sizes sh_cells la_xs la_ys la_heights la_ridgeXs la_ridgeHeights la_way la_blurs la_steps la_places la_ridges la_wayBlur la_wayLength bk_times bk_froms bk_asks bk_words bk_firsts bk_lies bk_held bk_size nu_learned nu_size to_letterMarks to_names to_spelled to_rows to_alike to_near to_asks to_letters to_words to_askCount) sz) := by
  refine Met.ofW (cc := cX0_firstKnown) (maxL := 6) (ret := (some .int)) (by decide) rfl ?_
  intro p e s m args below meth c s₁ B hml hv
  obtain ⟨rfl, hsz, hP, hK, hD0, hE⟩ := hv
  have hx := B.exec
  have hb := B.bytes
  have hr := B.returns
  have hts := atoms_spec (ws := wsX0_firstKnown) B.pre
  have hown : s.vm.findClass RX0 = some m.cls := findClass_of_methodNamed B.named
  have hlocks := B.notSynchronized
  subst hsz
  have hD := hD0.self (sz := s.heap.size)
  have hA : ∀ q : Nat, s.heap.size ≤ q → va_A (wX cB cI cJ cZ a (a 35) (a 4) ww_latestFault tp_bytes tp_size rd_fault rd_faultPlace rd_kind rd_start rd_at rd_number dr_letterMarks dr_names dr_spelled dr_rows dr_alike dr_near dr_asks dr_letters dr_words dr_askCount sh_lanes sh_sizes sh_cells la_xs la_ys la_heights la_ridgeXs la_ridgeHeights la_way la_blurs la_steps la_places la_ridges la_wayBlur la_wayLength bk_times bk_froms bk_asks bk_words bk_firsts bk_lies bk_held bk_size nu_learned nu_size to_letterMarks to_names to_spelled to_rows to_alike to_near to_asks to_letters to_words to_askCount) s.heap.size q := fun q h => Or.inr h
  generalize va_A (wX cB cI cJ cZ a (a 35) (a 4) ww_latestFault tp_bytes tp_size rd_fault rd_faultPlace rd_kind rd_start rd_at rd_number dr_letterMarks dr_names dr_spelled dr_rows dr_alike dr_near dr_asks dr_letters dr_words dr_askCount sh_lanes sh_sizes sh_cells la_xs la_ys la_heights la_ridgeXs la_ridgeHeights la_way la_blurs la_steps la_places la_ridges la_wayBlur la_wayLength bk_times bk_froms bk_asks bk_words bk_firsts bk_lies bk_held bk_size nu_learned nu_size to_letterMarks to_names to_spelled to_rows to_alike to_near to_asks to_letters to_words to_askCount) s.heap.size = A at hD hA hE ⊢
  have hS : va_S A s.heap s.heap [] := va_S.rf
  have C0 : cxt cX0_firstKnown (some .int) 6 RX0 wsX0_firstKnown (dC, dI) (tyz cB cI cJ cZ) (E_X adK adV) A p s m ([.ref (a 25), .int x1, .int x2, .int x3, .ref (a 35)] : List Value).toArray meth c := ⟨hx, hb, hr, hml, hown, hts, hlocks, hK, hA, hE⟩
  have hl := lv_entry ([.ref (a 25), .int x1, .int x2, .int x3, .ref (a 35)]) (n := 6) (Nat.le_of_ble_eq_true rfl)
  rw [lg_entry_eq]
  generalize (lg_sl ([.ref (a 25), .int x1, .int x2, .int x3, .ref (a 35)]) ++ List.replicate (6 - (lg_sl ([.ref (a 25), .int x1, .int x2, .int x3, .ref (a 35)])).length) Slot.unset).toArray = ls at hl ⊢
  have hl : lv_has ls 6 [(0, .ref (a 25)), (1, .int x1), (2, .int x2), (3, .int x3), (4, .ref (a 35))] := hl
  have hw0 := hts (.fieldLink RX0 35 "WhistledWords$Book" "held" "[I") (by decide +kernel)
  have hnX0 : ∀ w ∈ u_ws RX0 TX0 9, w ∈ wsX0_firstKnown := fun _ h => List.mem_cons_of_mem _ (List.mem_append_left _ (List.mem_append_left _ (List.mem_append_left _ (List.mem_append_right _ h))))
  unfold fX0_firstKnown at h
  refine lv_aload_n hx hb dX0_firstKnown_0 rfl (lv_at hl 0 rfl) ?_
  refine gX_book_held hx hb hts hnX0 hown hK hP hw0 dX0_firstKnown_1 ?_
  refine lv_iconst (v := -1) hx hb dX0_firstKnown_4 (by decide) ?_
  obtain ⟨f1, ef1, h⟩ := bd1_use h
  refine cf_v (w1 := (wX cB cI cJ cZ a (a 35) (a 4) ww_latestFault tp_bytes tp_size rd_fault rd_faultPlace rd_kind rd_start rd_at rd_number dr_letterMarks dr_names dr_spelled dr_rows dr_alike dr_near dr_asks dr_letters dr_words dr_askCount sh_lanes sh_sizes sh_cells la_xs la_ys la_heights la_ridgeXs la_ridgeHeights la_way la_blurs la_steps la_places la_ridges la_wayBlur la_wayLength bk_times bk_froms bk_asks bk_words bk_firsts bk_lies f1 bk_size nu_learned nu_size to_letterMarks to_names to_spelled to_rows to_alike to_near to_asks to_letters to_words to_askCount)) (rest := []) ⟨hx, hb, hml, hown, hts⟩ (kJ7_fill_53178 l n dC dI cB cI cJ cZ (a 32) _ 30 bk_held (-1 : Int32) f1 ef1) (va_cwS 2 hts gX0_firstKnown_J7_fill_53178 rfl rfl rfl (by decide +kernel) ⟨Nat.le_of_ble_eq_true rfl, Nat.le_of_ble_eq_true rfl⟩) hK hP hD hS hA 32 rfl rfl hl.1 rfl (Nat.le_of_ble_eq_true rfl) dX0_firstKnown_5 ⟨Nat.zero_le _, Nat.zero_le _⟩ (fun H locs hP hD hS => ?_)
  refine lv_iconst (v := 0) hx hb dX0_firstKnown_8 (by decide) ?_
  refine lv_istore (lv' := [(5, .int (0 : Int32)), (0, .ref (a 25)), (1, .int x1), (2, .int x2), (3, .int x3), (4, .ref (a 35))]) hx hb dX0_firstKnown_9 hl (by decide) rfl (fun ls hl => ?_)
  exact kX0_firstKnown_p11 dC dI cB cI cJ cZ a adK adV C0 n ww_latestFault tp_bytes tp_size rd_fault rd_faultPlace rd_kind rd_start rd_at rd_number dr_letterMarks dr_names dr_spelled dr_rows dr_alike dr_near dr_asks dr_letters dr_words dr_askCount sh_lanes sh_sizes sh_cells la_xs la_ys la_heights la_ridgeXs la_ridgeHeights la_way la_blurs la_steps la_places la_ridges la_wayBlur la_wayLength bk_times bk_froms bk_asks bk_words bk_firsts bk_lies f1 bk_size nu_learned nu_size to_letterMarks to_names to_spelled to_rows to_alike to_near to_asks to_letters to_words to_askCount x1 x2 x3 (0 : Int32) r0 z_bk_held  n _ _ ls h hP hD hS (lv_sub hl [1, 2, 3, 4, 5, 0] rfl)
set_option maxHeartbeats 4000000 in
set_option maxRecDepth 100000 in
theorem kX8_since (l : Launch) (n : Nat) (dC : Nat → ClassId) (dI : Nat → Nat → Nat) (cB cI cJ cZ : ClassId) (a : Nat → Nat) (adK adV : Nat → Nat) (sz : Nat) (ww_latestFault : Int32) (tp_bytes : Nat → Int32) (tp_size : Int32) (rd_fault : Int32) (rd_faultPlace : Int32) (rd_kind : Int32) (rd_start : Int32) (rd_at : Int32) (rd_number : Int32) (dr_letterMarks : Nat → Int32) (dr_names : Nat → Int64) (dr_spelled : Nat → Int32) (dr_rows : Nat → Int64) (dr_alike : Nat → Int32) (dr_near : Nat → Int32) (dr_asks : Nat → Int32) (dr_letters : Int32) (dr_words : Int32) (dr_askCount : Int32) (sh_lanes : Nat → Int32) (sh_sizes : Nat → Int32) (sh_cells : Nat → Int32) (la_xs : Nat → Int32) (la_ys : Nat → Int32) (la_heights : Nat → Int32) (la_ridgeXs : Nat → Int32) (la_ridgeHeights : Nat → Int32) (la_way : Nat → Int32) (la_blurs : Nat → Int32) (la_steps : Nat → Int32) (la_places : Int32) (la_ridges : Int32) (la_wayBlur : Int32) (la_wayLength : Int32) (bk_times : Nat → Int32) (bk_froms : Nat → Int32) (bk_asks : Nat → Int32) (bk_words : Nat → Int32) (bk_firsts : Nat → Int32) (bk_lies : Nat → Int32) (bk_held : Nat → Int32) (bk_size : Int32) (nu_learned : Nat → Int32) (nu_size : Int32) (to_letterMarks : Nat → Int32) (to_names : Nat → Int64) (to_spelled : Nat → Int32) (to_rows : Nat → Int64) (to_alike : Nat → Int32) (to_near : Nat → Int32) (to_asks : Nat → Int32) (to_letters : Int32) (to_words : Int32) (to_askCount : Int32) (x1 : Int32) (x2 : Int32) (x3 : Int32) (r0 : Int32) (z_bk_held : Nat → Int32) (h : fX8_since n sh_lanes sh_sizes sh_cells la_xs la_ys la_heights la_ridgeXs la_ridgeHeights la_places la_ridges bk_times bk_froms bk_asks bk_words bk_firsts bk_lies bk_held bk_size to_alike to_asks to_words to_askCount x1 x2 x3 = some (r0, z_bk_held)) : Met l yX8_since wsX8_since ({ frames := 6, cells := 0, slots := 0, locals := 146 }) (gP (dC, dI) (tyz cB cI cJ cZ) (E_X adK adV) (wX cB cI cJ cZ a (a 35) (a 4) ww_latestFault tp_bytes tp_size rd_fault rd_faultPlace rd_kind rd_start rd_at rd_number dr_letterMarks dr_names dr_spelled dr_rows dr_alike dr_near dr_asks dr_letters dr_words dr_askCount sh_lanes sh_sizes sh_cells la_xs la_ys la_heights la_ridgeXs la_ridgeHeights la_way la_blurs la_steps la_places la_ridges la_wayBlur la_wayLength bk_times bk_froms bk_asks bk_words bk_firsts bk_lies bk_held bk_size nu_learned nu_size to_letterMarks to_names to_spelled to_rows to_alike to_near to_asks to_letters to_words to_askCount) sz [.ref (a 0), .int x1, .int x2, .int x3]) (gI (dC, dI) (tyz cB cI cJ cZ) (wX cB cI cJ cZ a (a 35) (a 4) ww_latestFault tp_bytes tp_size rd_fault rd_faultPlace rd_kind rd_start rd_at rd_number dr_letterMarks dr_names dr_spelled dr_rows dr_alike dr_near dr_asks dr_letters dr_words dr_askCount sh_lanes sh_sizes sh_cells la_xs la_ys la_heights la_ridgeXs la_ridgeHeights la_way la_blurs la_steps la_places la_ridges la_wayBlur la_wayLength bk_times bk_froms bk_asks bk_words bk_firsts bk_lies z_bk_held bk_size nu_learned nu_size to_letterMarks to_names to_spelled to_rows to_alike to_near to_asks to_letters to_words to_askCount) (va_A (wX cB cI cJ cZ a (a 35) (a 4) ww_latestFault tp_bytes tp_size rd_fault rd_faultPlace rd_kind rd_start rd_at rd_number dr_letterMarks dr_names dr_spelled dr_rows dr_alike dr_near dr_asks dr_letters dr_words dr_askCount sh_lanes sh_sizes sh_cells la_xs la_ys la_heights la_ridgeXs la_ridgeHeights la_way la_blurs la_steps la_places la_ridges la_wayBlur la_wayLength bk_times bk_froms bk_asks bk_words bk_firsts bk_lies bk_held bk_size nu_learned nu_size to_letterMarks to_names to_spelled to_rows to_alike to_near to_asks to_letters to_words to_askCount) sz) r0) 0 0 (va_A (wX cB cI cJ cZ a (a 35) (a 4) ww_latestFault tp_bytes tp_size rd_fault rd_faultPlace rd_kind rd_start rd_at rd_number dr_letterMarks dr_names dr_spelled dr_rows dr_alike dr_near dr_asks dr_letters dr_words dr_askCount sh_lanes sh_sizes sh_cells la_xs la_ys la_heights la_ridgeXs la_ridgeHeights la_way la_blurs la_steps la_places la_ridges la_wayBlur la_wayLength bk_times bk_froms bk_asks bk_words bk_firsts bk_lies bk_held bk_size nu_learned nu_size to_letterMarks to_names to_spelled to_rows to_alike to_near to_asks to_letters to_words to_askCount) sz) := by
  refine Met.ofW (cc := cX8_since) (maxL := 4) (ret := (some .int)) (by decide) rfl ?_
  intro p e s m args below meth c s₁ B hml hv
  obtain ⟨rfl, hsz, hP, hK, hD0, hE⟩ := hv
  have hx := B.exec
  have hb := B.bytes
  have hr := B.returns
  have hts := atoms_spec (ws := wsX8_since) B.pre
  have hown : s.vm.findClass RX8 = some m.cls := findClass_of_methodNamed B.named
  have hlocks := B.notSynchronized
  subst hsz
  have hD := hD0.self (sz := s.heap.size)
  have hA : ∀ q : Nat, s.heap.size ≤ q → va_A (wX cB cI cJ cZ a (a 35) (a 4) ww_latestFault tp_bytes tp_size rd_fault rd_faultPlace rd_kind rd_start rd_at rd_number dr_letterMarks dr_names dr_spelled dr_rows dr_alike dr_near dr_asks dr_letters dr_words dr_askCount sh_lanes sh_sizes sh_cells la_xs la_ys la_heights la_ridgeXs la_ridgeHeights la_way la_blurs la_steps la_places la_ridges la_wayBlur la_wayLength bk_times bk_froms bk_asks bk_words bk_firsts bk_lies bk_held bk_size nu_learned nu_size to_letterMarks to_names to_spelled to_rows to_alike to_near to_asks to_letters to_words to_askCount) s.heap.size q := fun q h => Or.inr h
  generalize va_A (wX cB cI cJ cZ a (a 35) (a 4) ww_latestFault tp_bytes tp_size rd_fault rd_faultPlace rd_kind rd_start rd_at rd_number dr_letterMarks dr_names dr_spelled dr_rows dr_alike dr_near dr_asks dr_letters dr_words dr_askCount sh_lanes sh_sizes sh_cells la_xs la_ys la_heights la_ridgeXs la_ridgeHeights la_way la_blurs la_steps la_places la_ridges la_wayBlur la_wayLength bk_times bk_froms bk_asks bk_words bk_firsts bk_lies bk_held bk_size nu_learned nu_size to_letterMarks to_names to_spelled to_rows to_alike to_near to_asks to_letters to_words to_askCount) s.heap.size = A at hD hA hE ⊢
  have hS : va_S A s.heap s.heap [] := va_S.rf
  have C0 : cxt cX8_since (some .int) 4 RX8 wsX8_since (dC, dI) (tyz cB cI cJ cZ) (E_X adK adV) A p s m ([.ref (a 0), .int x1, .int x2, .int x3] : List Value).toArray meth c := ⟨hx, hb, hr, hml, hown, hts, hlocks, hK, hA, hE⟩
  have hl := lv_entry ([.ref (a 0), .int x1, .int x2, .int x3]) (n := 4) (Nat.le_of_ble_eq_true rfl)
  rw [lg_entry_eq]
  generalize (lg_sl ([.ref (a 0), .int x1, .int x2, .int x3]) ++ List.replicate (4 - (lg_sl ([.ref (a 0), .int x1, .int x2, .int x3])).length) Slot.unset).toArray = ls at hl ⊢
  have hl : lv_has ls 4 [(0, .ref (a 0)), (1, .int x1), (2, .int x2), (3, .int x3)] := hl
  have hw0 := hts (.fieldLink RX8 37 "WhistledWords" "land" "LWhistledWords$Land;") (by decide +kernel)
  have hw1 := hts (.fieldLink RX8 60 "WhistledWords" "told" "LWhistledWords$Tongue;") (by decide +kernel)
  have hw2 := hts (.fieldLink RX8 46 "WhistledWords" "book" "LWhistledWords$Book;") (by decide +kernel)
  have hnX8 : ∀ w ∈ u_ws RX8 TX8 8, w ∈ wsX8_since := fun _ h => List.mem_cons_of_mem _ (List.mem_append_left _ (List.mem_append_left _ (List.mem_append_left _ (List.mem_append_left _ (List.mem_append_right _ h)))))
  unfold fX8_since at h
  refine lv_aload_n hx hb dX8_since_0 rfl (lv_at hl 0 rfl) ?_
  refine gX_ww_land hx hb hts hnX8 hown hK hP hw0 dX8_since_1 ?_
  refine lv_iload_n hx hb dX8_since_4 rfl (lv_at hl 1 rfl) ?_
  obtain ⟨v1, hc, h⟩ := bd1_use h
  refine cv_i (As := [.int x1]) (rest := []) ⟨hx, hb, hml, hown, hts⟩ (kX1_isPlace l n dC dI cB cI cJ cZ a adK adV _ ww_latestFault tp_bytes tp_size rd_fault rd_faultPlace rd_kind rd_start rd_at rd_number dr_letterMarks dr_names dr_spelled dr_rows dr_alike dr_near dr_asks dr_letters dr_words dr_askCount sh_lanes sh_sizes sh_cells la_xs la_ys la_heights la_ridgeXs la_ridgeHeights la_way la_blurs la_steps la_places la_ridges la_wayBlur la_wayLength bk_times bk_froms bk_asks bk_words bk_firsts bk_lies bk_held bk_size nu_learned nu_size to_letterMarks to_names to_spelled to_rows to_alike to_near to_asks to_letters to_words to_askCount x1 v1 hc) (cwV 1 hts gX8_since_X1_isPlace rfl rfl rfl (by decide +kernel) ⟨Nat.le_of_ble_eq_true rfl, Nat.le_of_ble_eq_true rfl⟩) EB_X hE hK hP hD hS hA 16 (ci := 1) rfl rfl rfl rfl hl.1 rfl (Nat.le_of_ble_eq_true rfl) dX8_since_5 ⟨Nat.zero_le _, Nat.zero_le _⟩ (fun H locs hP hD hS => ?_)
  refine lv_if_eq (tgt := 23) hx hb dX8_since_8 (by decide) (fun c2 => ?_) (fun c2 => ?_)
  · have h := it_use c2 h
    refine lv_iconst (v := -1) hx hb dX8_since_23 (by decide) ?_
    obtain ⟨er, ez0⟩ := rt2_use h
    subst ez0
    exact re_i hx hb hr hlocks hK hP hD hS er dX8_since_24
  · have h := ie_use c2 h
    refine lv_aload_n hx hb dX8_since_11 rfl (lv_at hl 0 rfl) ?_
    refine gX_ww_told hx hb hts hnX8 hown hK hP hw1 dX8_since_12 ?_
    refine lv_iload_n hx hb dX8_since_15 rfl (lv_at hl 2 rfl) ?_
    refine lv_iload_n hx hb dX8_since_16 rfl (lv_at hl 3 rfl) ?_
    obtain ⟨v3, hc, h⟩ := bd1_use h
    refine cv_i (As := [.int x2, .int x3]) (rest := []) ⟨hx, hb, hml, hown, hts⟩ (kX7_fits l n dC dI cB cI cJ cZ a adK adV _ ww_latestFault tp_bytes tp_size rd_fault rd_faultPlace rd_kind rd_start rd_at rd_number dr_letterMarks dr_names dr_spelled dr_rows dr_alike dr_near dr_asks dr_letters dr_words dr_askCount sh_lanes sh_sizes sh_cells la_xs la_ys la_heights la_ridgeXs la_ridgeHeights la_way la_blurs la_steps la_places la_ridges la_wayBlur la_wayLength bk_times bk_froms bk_asks bk_words bk_firsts bk_lies bk_held bk_size nu_learned nu_size to_letterMarks to_names to_spelled to_rows to_alike to_near to_asks to_letters to_words to_askCount x2 x3 v3 hc) (cwV 2 hts gX8_since_X7_fits rfl rfl rfl (by decide +kernel) ⟨Nat.le_of_ble_eq_true rfl, Nat.le_of_ble_eq_true rfl⟩) EB_X hE hK hP hD hS hA 35 (ci := 6) rfl rfl rfl rfl hl.1 rfl (Nat.le_of_ble_eq_true rfl) dX8_since_17 ⟨Nat.zero_le _, Nat.zero_le _⟩ (fun H locs hP hD hS => ?_)
    refine lv_if_ne (tgt := 25) hx hb dX8_since_20 (by decide) (fun c4 => ?_) (fun c4 => ?_)
    · have h := ie_use c4 h
      refine lv_aload_n hx hb dX8_since_25 rfl (lv_at hl 0 rfl) ?_
      refine gX_ww_book hx hb hts hnX8 hown hK hP hw2 dX8_since_26 ?_
      refine lv_iload_n hx hb dX8_since_29 rfl (lv_at hl 1 rfl) ?_
      refine lv_iload_n hx hb dX8_since_30 rfl (lv_at hl 2 rfl) ?_
      refine lv_iload_n hx hb dX8_since_31 rfl (lv_at hl 3 rfl) ?_
      refine lv_aload_n hx hb dX8_since_32 rfl (lv_at hl 0 rfl) ?_
      refine gX_ww_told hx hb hts hnX8 hown hK hP hw1 dX8_since_33 ?_
      obtain ⟨v5, f6, hc, h⟩ := bd2_use h
      refine cv_i (As := [.int x1, .int x2, .int x3, .ref (a 35)]) (rest := []) ⟨hx, hb, hml, hown, hts⟩ (kX0_firstKnown l n dC dI cB cI cJ cZ a adK adV _ ww_latestFault tp_bytes tp_size rd_fault rd_faultPlace rd_kind rd_start rd_at rd_number dr_letterMarks dr_names dr_spelled dr_rows dr_alike dr_near dr_asks dr_letters dr_words dr_askCount sh_lanes sh_sizes sh_cells la_xs la_ys la_heights la_ridgeXs la_ridgeHeights la_way la_blurs la_steps la_places la_ridges la_wayBlur la_wayLength bk_times bk_froms bk_asks bk_words bk_firsts bk_lies bk_held bk_size nu_learned nu_size to_letterMarks to_names to_spelled to_rows to_alike to_near to_asks to_letters to_words to_askCount x1 x2 x3 v5 f6 hc) (cwV 4 hts gX8_since_X0_firstKnown rfl rfl rfl (by decide +kernel) ⟨Nat.le_of_ble_eq_true rfl, Nat.le_of_ble_eq_true rfl⟩) EB_X hE hK hP hD hS hA 25 (ci := 0) rfl rfl rfl rfl hl.1 rfl (Nat.le_of_ble_eq_true rfl) dX8_since_36 ⟨Nat.zero_le _, Nat.zero_le _⟩ (fun H locs hP hD hS => ?_)
      obtain ⟨er, ez0⟩ := rt2_use h
      subst ez0
      exact re_i hx hb hr hlocks hK hP hD hS er dX8_since_39
    · have h := it_use c4 h
      refine lv_iconst (v := -1) hx hb dX8_since_23 (by decide) ?_
      obtain ⟨er, ez0⟩ := rt2_use h
      subst ez0
      exact re_i hx hb hr hlocks hK hP hD hS er dX8_since_24
set_option maxHeartbeats 4000000 in
set_option maxRecDepth 100000 in
theorem kX8_spread_p55_r {p : Program} {l : Launch} {e : Env} {s : State} {m : MethodId} {args : Array Value} {below : List Frame} {meth : Method} {c : Code} {A : Nat → Prop} (dC : Nat → ClassId) (dI : Nat → Nat → Nat) (cB cI cJ cZ : ClassId) (a : Nat → Nat) (adK adV : Nat → Nat) (C0 : cxt cX8_spread (some .int) 9 RX8 wsX8_spread (dC, dI) (tyz cB cI cJ cZ) (E_X adK adV) A p s m args meth c) (n : Nat) (ww_latestFault : Int32) (tp_bytes : Nat → Int32) (tp_size : Int32) (rd_fault : Int32) (rd_faultPlace : Int32) (rd_kind : Int32) (rd_start : Int32) (rd_at : Int32) (rd_number : Int32) (dr_letterMarks : Nat → Int32) (dr_names : Nat → Int64) (dr_spelled : Nat → Int32) (dr_rows : Nat → Int64) (dr_alike : Nat → Int32) (dr_near : Nat → Int32) (dr_asks : Nat → Int32) (dr_letters : Int32) (dr_words : Int32) (dr_askCount : Int32) (sh_lanes : Nat → Int32) (sh_sizes : Nat → Int32) (sh_cells : Nat → Int32) (la_xs : Nat → Int32) (la_ys : Nat → Int32) (la_heights : Nat → Int32) (la_ridgeXs : Nat → Int32) (la_ridgeHeights : Nat → Int32) (la_way : Nat → Int32) (la_blurs : Nat → Int32) (la_steps : Nat → Int32) (la_places : Int32) (la_ridges : Int32) (la_wayBlur : Int32) (la_wayLength : Int32) (bk_times : Nat → Int32) (bk_froms : Nat → Int32) (bk_asks : Nat → Int32) (bk_words : Nat → Int32) (bk_firsts : Nat → Int32) (bk_lies : Nat → Int32) (bk_size : Int32) (nu_learned : Nat → Int32) (nu_size : Int32) (to_letterMarks : Nat → Int32) (to_names : Nat → Int64) (to_spelled : Nat → Int32) (to_rows : Nat → Int64) (to_alike : Nat → Int32) (to_near : Nat → Int32) (to_asks : Nat → Int32) (to_letters : Int32) (to_words : Int32) (to_askCount : Int32) (x1 : Int32) (x2 : Int32) (x5 : Int32) (x6 : Int32) (r0 : Int32) (z_bk_held : Nat → Int32)  : ∀ (k : Nat) (bk_held : Nat → Int32) (x7 : Int32) (x8 : Int32) (H : Heap) (locs : List Loc) (ls : Array Slot), fX8_spread_p55 n sh_lanes sh_sizes sh_cells la_xs la_ys la_heights la_ridgeXs la_ridgeHeights la_places la_ridges bk_times bk_froms bk_asks bk_words bk_firsts bk_lies to_alike to_asks x1 x2 x5 x6 k bk_held x7 x8 = some (r0, z_bk_held) → va_P (dC, dI) vwCl (wX cB cI cJ cZ a (a 35) (a 4) ww_latestFault tp_bytes tp_size rd_fault rd_faultPlace rd_kind rd_start rd_at rd_number dr_letterMarks dr_names dr_spelled dr_rows dr_alike dr_near dr_asks dr_letters dr_words dr_askCount sh_lanes sh_sizes sh_cells la_xs la_ys la_heights la_ridgeXs la_ridgeHeights la_way la_blurs la_steps la_places la_ridges la_wayBlur la_wayLength bk_times bk_froms bk_asks bk_words bk_firsts bk_lies bk_held bk_size nu_learned nu_size to_letterMarks to_names to_spelled to_rows to_alike to_near to_asks to_letters to_words to_askCount) H → va_D A (wX cB cI cJ cZ a (a 35) (a 4) ww_latestFault tp_bytes tp_size rd_fault rd_faultPlace rd_kind rd_start rd_at rd_number dr_letterMarks dr_names dr_spelled dr_rows dr_alike dr_near dr_asks dr_letters dr_words dr_askCount sh_lanes sh_sizes sh_cells la_xs la_ys la_heights la_ridgeXs la_ridgeHeights la_way la_blurs la_steps la_places la_ridges la_wayBlur la_wayLength bk_times bk_froms bk_asks bk_words bk_firsts bk_lies bk_held bk_size nu_learned nu_size to_letterMarks to_names to_spelled to_rows to_alike to_near to_asks to_letters to_words to_askCount) → va_S A s.heap H locs → lv_has ls 9 [(0, .ref (a 0)), (1, .int x1), (2, .int x2), (5, .int x5), (6, .int x6), (7, .int x7), (8, .int x8)] → W p l e { frames := 6, cells := 0, slots := 0, locals := 147 } s m args below meth c H locs 0 0 (MQ below (gI (dC, dI) (tyz cB cI cJ cZ) (wX cB cI cJ cZ a (a 35) (a 4) ww_latestFault tp_bytes tp_size rd_fault rd_faultPlace rd_kind rd_start rd_at rd_number dr_letterMarks dr_names dr_spelled dr_rows dr_alike dr_near dr_asks dr_letters dr_words dr_askCount sh_lanes sh_sizes sh_cells la_xs la_ys la_heights la_ridgeXs la_ridgeHeights la_way la_blurs la_steps la_places la_ridges la_wayBlur la_wayLength bk_times bk_froms bk_asks bk_words bk_firsts bk_lies z_bk_held bk_size nu_learned nu_size to_letterMarks to_names to_spelled to_rows to_alike to_near to_asks to_letters to_words to_askCount) A r0) args s 0 0 A) (F0 m 55 ls []) := by
  obtain ⟨hx, hb, hr, hml, hown, hts, hlocks, hK, hA, hE⟩ := id C0
  have hw0 := hts (.fieldLink RX8 37 "WhistledWords" "land" "LWhistledWords$Land;") (by decide +kernel)
  have hw1 := hts (.fieldLink RX8 202 "WhistledWords$Land" "places" "I") (by decide +kernel)
  have hw2 := hts (.fieldLink RX8 46 "WhistledWords" "book" "LWhistledWords$Book;") (by decide +kernel)
  have hw3 := hts (.fieldLink RX8 60 "WhistledWords" "told" "LWhistledWords$Tongue;") (by decide +kernel)
  have hnX8 : ∀ w ∈ u_ws RX8 TX8 8, w ∈ wsX8_spread := fun _ h => List.mem_cons_of_mem _ (List.mem_append_left _ (List.mem_append_left _ (List.mem_append_left _ (List.mem_append_left _ (List.mem_append_right _ h)))))
  have hnX1 : ∀ w ∈ u_ws RX1 TX1 13, w ∈ wsX8_spread := fun _ h => List.mem_cons_of_mem _ (List.mem_append_left _ (List.mem_append_left _ (List.mem_append_left _ (List.mem_append_right _ h))))
  intro k
  induction k with
  | zero =>
    intro bk_held x7 x8 H locs ls h
    cases h
  | succ k ih =>
    intro bk_held x7 x8 H locs ls h hP hD hS hl
    rw [fX8_spread_p55] at h
    refine lv_iload hx hb dX8_spread_55 (lv_at hl 6 rfl) ?_
    refine lv_aload_n hx hb dX8_spread_57 rfl (lv_at hl 0 rfl) ?_
    refine gX_ww_land hx hb hts hnX8 hown hK hP hw0 dX8_spread_58 ?_
    refine gX_land_places hx hb hts hnX1 hown hK hP hw1 dX8_spread_61 ?_
    refine lv_icmp_ge (tgt := 105) hx hb dX8_spread_64 (by decide) (fun c1 => ?_) (fun c1 => ?_)
    · have h := it_use c1 h
      refine lv_iload hx hb dX8_spread_105 (lv_at hl 3 rfl) ?_
      refine lv_if_ne (tgt := 118) hx hb dX8_spread_107 (by decide) (fun c2 => ?_) (fun c2 => ?_)
      · have h := ie_use c2 h
        refine lv_iload hx hb dX8_spread_118 (lv_at hl 5 rfl) ?_
        obtain ⟨er, ez0⟩ := rt2_use h
        subst ez0
        exact re_i hx hb hr hlocks hK hP hD hS er dX8_spread_120
      · have h := it_use c2 h
        refine lv_iload hx hb dX8_spread_110 (lv_at hl 5 rfl) ?_
        obtain ⟨v3, hc, h⟩ := bd1_use h
        refine cs_i (As := [.int x7]) (rest := []) ⟨hx, hb, hml, hown, hts⟩ (kJ6_bitCount_0f7a4 l n x7 v3 hc) (va_cwS 1 hts gX8_spread_J6_bitCount_0f7a4 rfl rfl rfl (by decide +kernel) ⟨Nat.le_of_ble_eq_true rfl, Nat.le_of_ble_eq_true rfl⟩) hP hS rfl hl.1 rfl (Nat.le_of_ble_eq_true rfl) dX8_spread_112 ⟨Nat.zero_le _, Nat.zero_le _⟩ (fun H locs hP hS => ?_)
        refine lv_goto (tgt := 120) hx hb dX8_spread_115 (by decide) ?_
        obtain ⟨er, ez0⟩ := rt2_use h
        subst ez0
        exact re_i hx hb hr hlocks hK hP hD hS er dX8_spread_120
    · have h := ie_use c1 h
      refine lv_aload_n hx hb dX8_spread_67 rfl (lv_at hl 0 rfl) ?_
      refine gX_ww_book hx hb hts hnX8 hown hK hP hw2 dX8_spread_68 ?_
      refine lv_iload hx hb dX8_spread_71 (lv_at hl 6 rfl) ?_
      refine lv_iload_n hx hb dX8_spread_73 rfl (lv_at hl 1 rfl) ?_
      refine lv_iload hx hb dX8_spread_74 (lv_at hl 4 rfl) ?_
      refine lv_aload_n hx hb dX8_spread_76 rfl (lv_at hl 0 rfl) ?_
      refine gX_ww_told hx hb hts hnX8 hown hK hP hw3 dX8_spread_77 ?_
      obtain ⟨v4, f5, hc, h⟩ := bd2_use h
      refine cv_i (As := [.int x8, .int x1, .int x6, .ref (a 35)]) (rest := []) ⟨hx, hb, hml, hown, hts⟩ (kX0_knownTo l n dC dI cB cI cJ cZ a adK adV _ ww_latestFault tp_bytes tp_size rd_fault rd_faultPlace rd_kind rd_start rd_at rd_number dr_letterMarks dr_names dr_spelled dr_rows dr_alike dr_near dr_asks dr_letters dr_words dr_askCount sh_lanes sh_sizes sh_cells la_xs la_ys la_heights la_ridgeXs la_ridgeHeights la_way la_blurs la_steps la_places la_ridges la_wayBlur la_wayLength bk_times bk_froms bk_asks bk_words bk_firsts bk_lies bk_held bk_size nu_learned nu_size to_letterMarks to_names to_spelled to_rows to_alike to_near to_asks to_letters to_words to_askCount x8 x1 x6 v4 f5 hc) (cwV 4 hts gX8_spread_X0_knownTo rfl rfl rfl (by decide +kernel) ⟨Nat.le_of_ble_eq_true rfl, Nat.le_of_ble_eq_true rfl⟩) EB_X hE hK hP hD hS hA 25 (ci := 0) rfl rfl rfl rfl hl.1 rfl (Nat.le_of_ble_eq_true rfl) dX8_spread_80 ⟨Nat.zero_le _, Nat.zero_le _⟩ (fun H locs hP hD hS => ?_)
      refine lv_iload_n hx hb dX8_spread_83 rfl (lv_at hl 2 rfl) ?_
      obtain ⟨v6, hc, h⟩ := bd1_use h
      refine cs_i (As := [.int v4, .int x2]) (rest := []) ⟨hx, hb, hml, hown, hts⟩ (kX8_isIn l n v4 x2 v6 hc) (va_cwS 2 hts gX8_spread_X8_isIn rfl rfl rfl (by decide +kernel) ⟨Nat.le_of_ble_eq_true rfl, Nat.le_of_ble_eq_true rfl⟩) hP hS rfl hl.1 rfl (Nat.le_of_ble_eq_true rfl) dX8_spread_84 ⟨Nat.zero_le _, Nat.zero_le _⟩ (fun H locs hP hS => ?_)
      refine lv_if_eq (tgt := 99) hx hb dX8_spread_87 (by decide) (fun c7 => ?_) (fun c7 => ?_)
      · have h := it_use c7 h
        refine lv_iinc (v := x8 + 1) (lv' := [(8, .int (x8 + 1)), (0, .ref (a 0)), (1, .int x1), (2, .int x2), (5, .int x5), (6, .int x6), (7, .int x7)]) hx hb dX8_spread_99 hl (k := 6) rfl rfl (by decide) rfl (fun ls hl => ?_)
        refine lv_goto (tgt := 55) hx hb dX8_spread_102 (by decide) ?_
        exact ih f5 x7 (x8 + 1) _ _ ls h hP hD hS (lv_sub hl [1, 2, 3, 4, 5, 6, 0] rfl)
      · have h := ie_use c7 h
        refine lv_iload hx hb dX8_spread_90 (lv_at hl 5 rfl) ?_
        refine lv_iconst (v := 1) hx hb dX8_spread_92 (by decide) ?_
        refine lv_iload hx hb dX8_spread_93 (lv_at hl 6 rfl) ?_
        refine lv_ishl hx hb dX8_spread_95 ?_
        refine lv_ior hx hb dX8_spread_96 ?_
        refine lv_topi (fun v8 ev8 => ?_)
        have h := nm_use ev8 h
        refine lv_istore (lv' := [(7, .int v8), (0, .ref (a 0)), (1, .int x1), (2, .int x2), (5, .int x5), (6, .int x6), (8, .int x8)]) hx hb dX8_spread_97 hl (by decide) rfl (fun ls hl => ?_)
        refine lv_iinc (v := x8 + 1) (lv' := [(8, .int (x8 + 1)), (7, .int v8), (0, .ref (a 0)), (1, .int x1), (2, .int x2), (5, .int x5), (6, .int x6)]) hx hb dX8_spread_99 hl (k := 6) rfl rfl (by decide) rfl (fun ls hl => ?_)
        refine lv_goto (tgt := 55) hx hb dX8_spread_102 (by decide) ?_
        exact ih f5 v8 (x8 + 1) _ _ ls h hP hD hS (lv_sub hl [2, 3, 4, 5, 6, 1, 0] rfl)
theorem kX8_spread_p55 {p : Program} {l : Launch} {e : Env} {s : State} {m : MethodId} {args : Array Value} {below : List Frame} {meth : Method} {c : Code} {A : Nat → Prop} (dC : Nat → ClassId) (dI : Nat → Nat → Nat) (cB cI cJ cZ : ClassId) (a : Nat → Nat) (adK adV : Nat → Nat) (C0 : cxt cX8_spread (some .int) 9 RX8 wsX8_spread (dC, dI) (tyz cB cI cJ cZ) (E_X adK adV) A p s m args meth c) (n : Nat) (ww_latestFault : Int32) (tp_bytes : Nat → Int32) (tp_size : Int32) (rd_fault : Int32) (rd_faultPlace : Int32) (rd_kind : Int32) (rd_start : Int32) (rd_at : Int32) (rd_number : Int32) (dr_letterMarks : Nat → Int32) (dr_names : Nat → Int64) (dr_spelled : Nat → Int32) (dr_rows : Nat → Int64) (dr_alike : Nat → Int32) (dr_near : Nat → Int32) (dr_asks : Nat → Int32) (dr_letters : Int32) (dr_words : Int32) (dr_askCount : Int32) (sh_lanes : Nat → Int32) (sh_sizes : Nat → Int32) (sh_cells : Nat → Int32) (la_xs : Nat → Int32) (la_ys : Nat → Int32) (la_heights : Nat → Int32) (la_ridgeXs : Nat → Int32) (la_ridgeHeights : Nat → Int32) (la_way : Nat → Int32) (la_blurs : Nat → Int32) (la_steps : Nat → Int32) (la_places : Int32) (la_ridges : Int32) (la_wayBlur : Int32) (la_wayLength : Int32) (bk_times : Nat → Int32) (bk_froms : Nat → Int32) (bk_asks : Nat → Int32) (bk_words : Nat → Int32) (bk_firsts : Nat → Int32) (bk_lies : Nat → Int32) (bk_held : Nat → Int32) (bk_size : Int32) (nu_learned : Nat → Int32) (nu_size : Int32) (to_letterMarks : Nat → Int32) (to_names : Nat → Int64) (to_spelled : Nat → Int32) (to_rows : Nat → Int64) (to_alike : Nat → Int32) (to_near : Nat → Int32) (to_asks : Nat → Int32) (to_letters : Int32) (to_words : Int32) (to_askCount : Int32)  (x1 : Int32) (x2 : Int32) (x5 : Int32) (x6 : Int32) (x7 : Int32) (x8 : Int32) (r0 : Int32) (z_bk_held : Nat → Int32)  (k : Nat) (H : Heap) (locs : List Loc) (ls : Array Slot) : fX8_spread_p55 n sh_lanes sh_sizes sh_cells la_xs la_ys la_heights la_ridgeXs la_ridgeHeights la_places la_ridges bk_times bk_froms bk_asks bk_words bk_firsts bk_lies to_alike to_asks x1 x2 x5 x6 k bk_held x7 x8 = some (r0, z_bk_held) → va_P (dC, dI) vwCl (wX cB cI cJ cZ a (a 35) (a 4) ww_latestFault tp_bytes tp_size rd_fault rd_faultPlace rd_kind rd_start rd_at rd_number dr_letterMarks dr_names dr_spelled dr_rows dr_alike dr_near dr_asks dr_letters dr_words dr_askCount sh_lanes sh_sizes sh_cells la_xs la_ys la_heights la_ridgeXs la_ridgeHeights la_way la_blurs la_steps la_places la_ridges la_wayBlur la_wayLength bk_times bk_froms bk_asks bk_words bk_firsts bk_lies bk_held bk_size nu_learned nu_size to_letterMarks to_names to_spelled to_rows to_alike to_near to_asks to_letters to_words to_askCount) H → va_D A (wX cB cI cJ cZ a (a 35) (a 4) ww_latestFault tp_bytes tp_size rd_fault rd_faultPlace rd_kind rd_start rd_at rd_number dr_letterMarks dr_names dr_spelled dr_rows dr_alike dr_near dr_asks dr_letters dr_words dr_askCount sh_lanes sh_sizes sh_cells la_xs la_ys la_heights la_ridgeXs la_ridgeHeights la_way la_blurs la_steps la_places la_ridges la_wayBlur la_wayLength bk_times bk_froms bk_asks bk_words bk_firsts bk_lies bk_held bk_size nu_learned nu_size to_letterMarks to_names to_spelled to_rows to_alike to_near to_asks to_letters to_words to_askCount) → va_S A s.heap H locs → lv_has ls 9 [(0, .ref (a 0)), (1, .int x1), (2, .int x2), (5, .int x5), (6, .int x6), (7, .int x7), (8, .int x8)] → W p l e { frames := 6, cells := 0, slots := 0, locals := 147 } s m args below meth c H locs 0 0 (MQ below (gI (dC, dI) (tyz cB cI cJ cZ) (wX cB cI cJ cZ a (a 35) (a 4) ww_latestFault tp_bytes tp_size rd_fault rd_faultPlace rd_kind rd_start rd_at rd_number dr_letterMarks dr_names dr_spelled dr_rows dr_alike dr_near dr_asks dr_letters dr_words dr_askCount sh_lanes sh_sizes sh_cells la_xs la_ys la_heights la_ridgeXs la_ridgeHeights la_way la_blurs la_steps la_places la_ridges la_wayBlur la_wayLength bk_times bk_froms bk_asks bk_words bk_firsts bk_lies z_bk_held bk_size nu_learned nu_size to_letterMarks to_names to_spelled to_rows to_alike to_near to_asks to_letters to_words to_askCount) A r0) args s 0 0 A) (F0 m 55 ls []) :=
  kX8_spread_p55_r dC dI cB cI cJ cZ a adK adV C0 n ww_latestFault tp_bytes tp_size rd_fault rd_faultPlace rd_kind rd_start rd_at rd_number dr_letterMarks dr_names dr_spelled dr_rows dr_alike dr_near dr_asks dr_letters dr_words dr_askCount sh_lanes sh_sizes sh_cells la_xs la_ys la_heights la_ridgeXs la_ridgeHeights la_way la_blurs la_steps la_places la_ridges la_wayBlur la_wayLength bk_times bk_froms bk_asks bk_words bk_firsts bk_lies bk_size nu_learned nu_size to_letterMarks to_names to_spelled to_rows to_alike to_near to_asks to_letters to_words to_askCount x1 x2 x5 x6 r0 z_bk_held  k bk_held x7 x8 H locs ls
set_option maxHeartbeats 4000000 in
set_option maxRecDepth 100000 in
theorem kX8_spread (l : Launch) (n : Nat) (dC : Nat → ClassId) (dI : Nat → Nat → Nat) (cB cI cJ cZ : ClassId) (a : Nat → Nat) (adK adV : Nat → Nat) (sz : Nat) (ww_latestFault : Int32) (tp_bytes : Nat → Int32) (tp_size : Int32) (rd_fault : Int32) (rd_faultPlace : Int32) (rd_kind : Int32) (rd_start : Int32) (rd_at : Int32) (rd_number : Int32) (dr_letterMarks : Nat → Int32) (dr_names : Nat → Int64) (dr_spelled : Nat → Int32) (dr_rows : Nat → Int64) (dr_alike : Nat → Int32) (dr_near : Nat → Int32) (dr_asks : Nat → Int32) (dr_letters : Int32) (dr_words : Int32) (dr_askCount : Int32) (sh_lanes : Nat → Int32) (sh_sizes : Nat → Int32) (sh_cells : Nat → Int32) (la_xs : Nat → Int32) (la_ys : Nat → Int32) (la_heights : Nat → Int32) (la_ridgeXs : Nat → Int32) (la_ridgeHeights : Nat → Int32) (la_way : Nat → Int32) (la_blurs : Nat → Int32) (la_steps : Nat → Int32) (la_places : Int32) (la_ridges : Int32) (la_wayBlur : Int32) (la_wayLength : Int32) (bk_times : Nat → Int32) (bk_froms : Nat → Int32) (bk_asks : Nat → Int32) (bk_words : Nat → Int32) (bk_firsts : Nat → Int32) (bk_lies : Nat → Int32) (bk_held : Nat → Int32) (bk_size : Int32) (nu_learned : Nat → Int32) (nu_size : Int32) (to_letterMarks : Nat → Int32) (to_names : Nat → Int64) (to_spelled : Nat → Int32) (to_rows : Nat → Int64) (to_alike : Nat → Int32) (to_near : Nat → Int32) (to_asks : Nat → Int32) (to_letters : Int32) (to_words : Int32) (to_askCount : Int32) (x1 : Int32) (x2 : Int32) (x3 : Int32) (x4 : Int32) (x5 : Int32) (r0 : Int32) (z_bk_held : Nat → Int32) (h : fX8_spread n sh_lanes sh_sizes sh_cells la_xs la_ys la_heights la_ridgeXs la_ridgeHeights la_places la_ridges bk_times bk_froms bk_asks bk_words bk_firsts bk_lies bk_held bk_size to_alike to_asks to_words to_askCount x1 x2 x3 x4 x5 = some (r0, z_bk_held)) : Met l yX8_spread wsX8_spread ({ frames := 6, cells := 0, slots := 0, locals := 147 }) (gP (dC, dI) (tyz cB cI cJ cZ) (E_X adK adV) (wX cB cI cJ cZ a (a 35) (a 4) ww_latestFault tp_bytes tp_size rd_fault rd_faultPlace rd_kind rd_start rd_at rd_number dr_letterMarks dr_names dr_spelled dr_rows dr_alike dr_near dr_asks dr_letters dr_words dr_askCount sh_lanes sh_sizes sh_cells la_xs la_ys la_heights la_ridgeXs la_ridgeHeights la_way la_blurs la_steps la_places la_ridges la_wayBlur la_wayLength bk_times bk_froms bk_asks bk_words bk_firsts bk_lies bk_held bk_size nu_learned nu_size to_letterMarks to_names to_spelled to_rows to_alike to_near to_asks to_letters to_words to_askCount) sz [.ref (a 0), .int x1, .int x2, .int x3, .int x4, .int x5]) (gI (dC, dI) (tyz cB cI cJ cZ) (wX cB cI cJ cZ a (a 35) (a 4) ww_latestFault tp_bytes tp_size rd_fault rd_faultPlace rd_kind rd_start rd_at rd_number dr_letterMarks dr_names dr_spelled dr_rows dr_alike dr_near dr_asks dr_letters dr_words dr_askCount sh_lanes sh_sizes sh_cells la_xs la_ys la_heights la_ridgeXs la_ridgeHeights la_way la_blurs la_steps la_places la_ridges la_wayBlur la_wayLength bk_times bk_froms bk_asks bk_words bk_firsts bk_lies z_bk_held bk_size nu_learned nu_size to_letterMarks to_names to_spelled to_rows to_alike to_near to_asks to_letters to_words to_askCount) (va_A (wX cB cI cJ cZ a (a 35) (a 4) ww_latestFault tp_bytes tp_size rd_fault rd_faultPlace rd_kind rd_start rd_at rd_number dr_letterMarks dr_names dr_spelled dr_rows dr_alike dr_near dr_asks dr_letters dr_words dr_askCount sh_lanes sh_sizes sh_cells la_xs la_ys la_heights la_ridgeXs la_ridgeHeights la_way la_blurs la_steps la_places la_ridges la_wayBlur la_wayLength bk_times bk_froms bk_asks bk_words bk_firsts bk_lies bk_held bk_size nu_learned nu_size to_letterMarks to_names to_spelled to_rows to_alike to_near to_asks to_letters to_words to_askCount) sz) r0) 0 0 (va_A (wX cB cI cJ cZ a (a 35) (a 4) ww_latestFault tp_bytes tp_size rd_fault rd_faultPlace rd_kind rd_start rd_at rd_number dr_letterMarks dr_names dr_spelled dr_rows dr_alike dr_near dr_asks dr_letters dr_words dr_askCount sh_lanes sh_sizes sh_cells la_xs la_ys la_heights la_ridgeXs la_ridgeHeights la_way la_blurs la_steps la_places la_ridges la_wayBlur la_wayLength bk_times bk_froms bk_asks bk_words bk_firsts bk_lies bk_held bk_size nu_learned nu_size to_letterMarks to_names to_spelled to_rows to_alike to_near to_asks to_letters to_words to_askCount) sz) := by
  refine Met.ofW (cc := cX8_spread) (maxL := 9) (ret := (some .int)) (by decide) rfl ?_
  intro p e s m args below meth c s₁ B hml hv
  obtain ⟨rfl, hsz, hP, hK, hD0, hE⟩ := hv
  have hx := B.exec
  have hb := B.bytes
  have hr := B.returns
  have hts := atoms_spec (ws := wsX8_spread) B.pre
  have hown : s.vm.findClass RX8 = some m.cls := findClass_of_methodNamed B.named
  have hlocks := B.notSynchronized
  subst hsz
  have hD := hD0.self (sz := s.heap.size)
  have hA : ∀ q : Nat, s.heap.size ≤ q → va_A (wX cB cI cJ cZ a (a 35) (a 4) ww_latestFault tp_bytes tp_size rd_fault rd_faultPlace rd_kind rd_start rd_at rd_number dr_letterMarks dr_names dr_spelled dr_rows dr_alike dr_near dr_asks dr_letters dr_words dr_askCount sh_lanes sh_sizes sh_cells la_xs la_ys la_heights la_ridgeXs la_ridgeHeights la_way la_blurs la_steps la_places la_ridges la_wayBlur la_wayLength bk_times bk_froms bk_asks bk_words bk_firsts bk_lies bk_held bk_size nu_learned nu_size to_letterMarks to_names to_spelled to_rows to_alike to_near to_asks to_letters to_words to_askCount) s.heap.size q := fun q h => Or.inr h
  generalize va_A (wX cB cI cJ cZ a (a 35) (a 4) ww_latestFault tp_bytes tp_size rd_fault rd_faultPlace rd_kind rd_start rd_at rd_number dr_letterMarks dr_names dr_spelled dr_rows dr_alike dr_near dr_asks dr_letters dr_words dr_askCount sh_lanes sh_sizes sh_cells la_xs la_ys la_heights la_ridgeXs la_ridgeHeights la_way la_blurs la_steps la_places la_ridges la_wayBlur la_wayLength bk_times bk_froms bk_asks bk_words bk_firsts bk_lies bk_held bk_size nu_learned nu_size to_letterMarks to_names to_spelled to_rows to_alike to_near to_asks to_letters to_words to_askCount) s.heap.size = A at hD hA hE ⊢
  have hS : va_S A s.heap s.heap [] := va_S.rf
  have C0 : cxt cX8_spread (some .int) 9 RX8 wsX8_spread (dC, dI) (tyz cB cI cJ cZ) (E_X adK adV) A p s m ([.ref (a 0), .int x1, .int x2, .int x3, .int x4, .int x5] : List Value).toArray meth c := ⟨hx, hb, hr, hml, hown, hts, hlocks, hK, hA, hE⟩
  have hl := lv_entry ([.ref (a 0), .int x1, .int x2, .int x3, .int x4, .int x5]) (n := 9) (Nat.le_of_ble_eq_true rfl)
  rw [lg_entry_eq]
  generalize (lg_sl ([.ref (a 0), .int x1, .int x2, .int x3, .int x4, .int x5]) ++ List.replicate (9 - (lg_sl ([.ref (a 0), .int x1, .int x2, .int x3, .int x4, .int x5])).length) Slot.unset).toArray = ls at hl ⊢
  have hl : lv_has ls 9 [(0, .ref (a 0)), (1, .int x1), (2, .int x2), (3, .int x3), (4, .int x4), (5, .int x5)] := hl
  have hw0 := hts (.fieldLink RX8 60 "WhistledWords" "told" "LWhistledWords$Tongue;") (by decide +kernel)
  have hw1 := hts (.fieldLink RX8 46 "WhistledWords" "book" "LWhistledWords$Book;") (by decide +kernel)
  have hnX8 : ∀ w ∈ u_ws RX8 TX8 8, w ∈ wsX8_spread := fun _ h => List.mem_cons_of_mem _ (List.mem_append_left _ (List.mem_append_left _ (List.mem_append_left _ (List.mem_append_left _ (List.mem_append_right _ h)))))
  unfold fX8_spread at h
  refine lv_aload_n hx hb dX8_spread_0 rfl (lv_at hl 0 rfl) ?_
  refine gX_ww_told hx hb hts hnX8 hown hK hP hw0 dX8_spread_1 ?_
  refine lv_iload_n hx hb dX8_spread_4 rfl (lv_at hl 1 rfl) ?_
  refine lv_iload_n hx hb dX8_spread_5 rfl (lv_at hl 2 rfl) ?_
  obtain ⟨v1, hc, h⟩ := bd1_use h
  refine cv_i (As := [.int x1, .int x2]) (rest := []) ⟨hx, hb, hml, hown, hts⟩ (kX7_fits l n dC dI cB cI cJ cZ a adK adV _ ww_latestFault tp_bytes tp_size rd_fault rd_faultPlace rd_kind rd_start rd_at rd_number dr_letterMarks dr_names dr_spelled dr_rows dr_alike dr_near dr_asks dr_letters dr_words dr_askCount sh_lanes sh_sizes sh_cells la_xs la_ys la_heights la_ridgeXs la_ridgeHeights la_way la_blurs la_steps la_places la_ridges la_wayBlur la_wayLength bk_times bk_froms bk_asks bk_words bk_firsts bk_lies bk_held bk_size nu_learned nu_size to_letterMarks to_names to_spelled to_rows to_alike to_near to_asks to_letters to_words to_askCount x1 x2 v1 hc) (cwV 2 hts gX8_spread_X7_fits rfl rfl rfl (by decide +kernel) ⟨Nat.le_of_ble_eq_true rfl, Nat.le_of_ble_eq_true rfl⟩) EB_X hE hK hP hD hS hA 35 (ci := 6) rfl rfl rfl rfl hl.1 rfl (Nat.le_of_ble_eq_true rfl) dX8_spread_6 ⟨Nat.zero_le _, Nat.zero_le _⟩ (fun H locs hP hD hS => ?_)
  refine lv_if_eq (tgt := 32) hx hb dX8_spread_9 (by decide) (fun c2 => ?_) (fun c2 => ?_)
  · have h := it_use c2 h
    refine lv_iconst (v := -1) hx hb dX8_spread_32 (by decide) ?_
    obtain ⟨er, ez0⟩ := rt2_use h
    subst ez0
    exact re_i hx hb hr hlocks hK hP hD hS er dX8_spread_33
  · have h := ie_use c2 h
    refine lv_iload_n hx hb dX8_spread_12 rfl (lv_at hl 3 rfl) ?_
    refine lv_iload hx hb dX8_spread_13 (lv_at hl 4 rfl) ?_
    obtain ⟨v3, hc, h⟩ := bd1_use h
    refine cs_i (As := [.int x3, .int x4]) (rest := []) ⟨hx, hb, hml, hown, hts⟩ (kX8_isTime l n x3 x4 v3 hc) (va_cwS 2 hts gX8_spread_X8_isTime rfl rfl rfl (by decide +kernel) ⟨Nat.le_of_ble_eq_true rfl, Nat.le_of_ble_eq_true rfl⟩) hP hS rfl hl.1 rfl (Nat.le_of_ble_eq_true rfl) dX8_spread_15 ⟨Nat.zero_le _, Nat.zero_le _⟩ (fun H locs hP hS => ?_)
    refine lv_if_eq (tgt := 32) hx hb dX8_spread_18 (by decide) (fun c4 => ?_) (fun c4 => ?_)
    · have h := it_use c4 h
      refine lv_iconst (v := -1) hx hb dX8_spread_32 (by decide) ?_
      obtain ⟨er, ez0⟩ := rt2_use h
      subst ez0
      exact re_i hx hb hr hlocks hK hP hD hS er dX8_spread_33
    · have h := ie_use c4 h
      refine lv_iload hx hb dX8_spread_21 (lv_at hl 5 rfl) ?_
      refine lv_if_lt (tgt := 32) hx hb dX8_spread_23 (by decide) (fun c5 => ?_) (fun c5 => ?_)
      · have h := it_use c5 h
        refine lv_iconst (v := -1) hx hb dX8_spread_32 (by decide) ?_
        obtain ⟨er, ez0⟩ := rt2_use h
        subst ez0
        exact re_i hx hb hr hlocks hK hP hD hS er dX8_spread_33
      · have h := ie_use c5 h
        refine lv_iload hx hb dX8_spread_26 (lv_at hl 5 rfl) ?_
        refine lv_iconst (v := 1) hx hb dX8_spread_28 (by decide) ?_
        refine lv_icmp_le (tgt := 34) hx hb dX8_spread_29 (by decide) (fun c6 => ?_) (fun c6 => ?_)
        · have h := it_use c6 h
          refine lv_aload_n hx hb dX8_spread_34 rfl (lv_at hl 0 rfl) ?_
          refine gX_ww_book hx hb hts hnX8 hown hK hP hw1 dX8_spread_35 ?_
          refine lv_iload_n hx hb dX8_spread_38 rfl (lv_at hl 3 rfl) ?_
          refine lv_iload hx hb dX8_spread_39 (lv_at hl 4 rfl) ?_
          obtain ⟨v7, hc, h⟩ := bd1_use h
          refine cs_i (As := [.int x3, .int x4]) (rest := [.ref (a 25)]) ⟨hx, hb, hml, hown, hts⟩ (kX8_timeOf l n x3 x4 v7 hc) (va_cwS 2 hts gX8_spread_X8_timeOf rfl rfl rfl (by decide +kernel) ⟨Nat.le_of_ble_eq_true rfl, Nat.le_of_ble_eq_true rfl⟩) hP hS rfl hl.1 rfl (Nat.le_of_ble_eq_true rfl) dX8_spread_41 ⟨Nat.zero_le _, Nat.zero_le _⟩ (fun H locs hP hS => ?_)
          obtain ⟨v8, hc, h⟩ := bd1_use h
          refine cv_i (As := [.int v7]) (rest := []) ⟨hx, hb, hml, hown, hts⟩ (kX0_callsUpTo l n dC dI cB cI cJ cZ a adK adV _ ww_latestFault tp_bytes tp_size rd_fault rd_faultPlace rd_kind rd_start rd_at rd_number dr_letterMarks dr_names dr_spelled dr_rows dr_alike dr_near dr_asks dr_letters dr_words dr_askCount sh_lanes sh_sizes sh_cells la_xs la_ys la_heights la_ridgeXs la_ridgeHeights la_way la_blurs la_steps la_places la_ridges la_wayBlur la_wayLength bk_times bk_froms bk_asks bk_words bk_firsts bk_lies bk_held bk_size nu_learned nu_size to_letterMarks to_names to_spelled to_rows to_alike to_near to_asks to_letters to_words to_askCount v7 v8 hc) (cwV 1 hts gX8_spread_X0_callsUpTo rfl rfl rfl (by decide +kernel) ⟨Nat.le_of_ble_eq_true rfl, Nat.le_of_ble_eq_true rfl⟩) EB_X hE hK hP hD hS hA 25 (ci := 0) rfl rfl rfl rfl hl.1 rfl (Nat.le_of_ble_eq_true rfl) dX8_spread_44 ⟨Nat.zero_le _, Nat.zero_le _⟩ (fun H locs hP hD hS => ?_)
          refine lv_istore (lv' := [(6, .int v8), (0, .ref (a 0)), (1, .int x1), (2, .int x2), (3, .int x3), (4, .int x4), (5, .int x5)]) hx hb dX8_spread_47 hl (by decide) rfl (fun ls hl => ?_)
          refine lv_iconst (v := 0) hx hb dX8_spread_49 (by decide) ?_
          refine lv_istore (lv' := [(7, .int (0 : Int32)), (6, .int v8), (0, .ref (a 0)), (1, .int x1), (2, .int x2), (3, .int x3), (4, .int x4), (5, .int x5)]) hx hb dX8_spread_50 hl (by decide) rfl (fun ls hl => ?_)
          refine lv_iconst (v := 0) hx hb dX8_spread_52 (by decide) ?_
          refine lv_istore (lv' := [(8, .int (0 : Int32)), (7, .int (0 : Int32)), (6, .int v8), (0, .ref (a 0)), (1, .int x1), (2, .int x2), (3, .int x3), (4, .int x4), (5, .int x5)]) hx hb dX8_spread_53 hl (by decide) rfl (fun ls hl => ?_)
          exact kX8_spread_p55 dC dI cB cI cJ cZ a adK adV C0 n ww_latestFault tp_bytes tp_size rd_fault rd_faultPlace rd_kind rd_start rd_at rd_number dr_letterMarks dr_names dr_spelled dr_rows dr_alike dr_near dr_asks dr_letters dr_words dr_askCount sh_lanes sh_sizes sh_cells la_xs la_ys la_heights la_ridgeXs la_ridgeHeights la_way la_blurs la_steps la_places la_ridges la_wayBlur la_wayLength bk_times bk_froms bk_asks bk_words bk_firsts bk_lies bk_held bk_size nu_learned nu_size to_letterMarks to_names to_spelled to_rows to_alike to_near to_asks to_letters to_words to_askCount x1 x2 x5 v8 (0 : Int32) (0 : Int32) r0 z_bk_held  n _ _ ls h hP hD hS (lv_sub hl [3, 4, 5, 8, 2, 1, 0] rfl)
        · have h := ie_use c6 h
          refine lv_iconst (v := -1) hx hb dX8_spread_32 (by decide) ?_
          obtain ⟨er, ez0⟩ := rt2_use h
          subst ez0
          exact re_i hx hb hr hlocks hK hP hD hS er dX8_spread_33
set_option maxHeartbeats 4000000 in
set_option maxRecDepth 100000 in
theorem kX8_child (l : Launch) (n : Nat) (dC : Nat → ClassId) (dI : Nat → Nat → Nat) (cB cI cJ cZ : ClassId) (a : Nat → Nat) (adK adV : Nat → Nat) (sz : Nat) (ww_latestFault : Int32) (tp_bytes : Nat → Int32) (tp_size : Int32) (rd_fault : Int32) (rd_faultPlace : Int32) (rd_kind : Int32) (rd_start : Int32) (rd_at : Int32) (rd_number : Int32) (dr_letterMarks : Nat → Int32) (dr_names : Nat → Int64) (dr_spelled : Nat → Int32) (dr_rows : Nat → Int64) (dr_alike : Nat → Int32) (dr_near : Nat → Int32) (dr_asks : Nat → Int32) (dr_letters : Int32) (dr_words : Int32) (dr_askCount : Int32) (sh_lanes : Nat → Int32) (sh_sizes : Nat → Int32) (sh_cells : Nat → Int32) (la_xs : Nat → Int32) (la_ys : Nat → Int32) (la_heights : Nat → Int32) (la_ridgeXs : Nat → Int32) (la_ridgeHeights : Nat → Int32) (la_way : Nat → Int32) (la_blurs : Nat → Int32) (la_steps : Nat → Int32) (la_places : Int32) (la_ridges : Int32) (la_wayBlur : Int32) (la_wayLength : Int32) (bk_times : Nat → Int32) (bk_froms : Nat → Int32) (bk_asks : Nat → Int32) (bk_words : Nat → Int32) (bk_firsts : Nat → Int32) (bk_lies : Nat → Int32) (bk_held : Nat → Int32) (bk_size : Int32) (nu_learned : Nat → Int32) (nu_size : Int32) (to_letterMarks : Nat → Int32) (to_names : Nat → Int64) (to_spelled : Nat → Int32) (to_rows : Nat → Int64) (to_alike : Nat → Int32) (to_near : Nat → Int32) (to_asks : Nat → Int32) (to_letters : Int32) (to_words : Int32) (to_askCount : Int32)  (r0 : Int32) (z_nu_size : Int32) (h : fX8_child n nu_size = some (r0, z_nu_size)) : Met l yX8_child wsX8_child ({ frames := 0, cells := 0, slots := 0, locals := 0 }) (gP (dC, dI) (tyz cB cI cJ cZ) (E_X adK adV) (wX cB cI cJ cZ a (a 35) (a 4) ww_latestFault tp_bytes tp_size rd_fault rd_faultPlace rd_kind rd_start rd_at rd_number dr_letterMarks dr_names dr_spelled dr_rows dr_alike dr_near dr_asks dr_letters dr_words dr_askCount sh_lanes sh_sizes sh_cells la_xs la_ys la_heights la_ridgeXs la_ridgeHeights la_way la_blurs la_steps la_places la_ridges la_wayBlur la_wayLength bk_times bk_froms bk_asks bk_words bk_firsts bk_lies bk_held bk_size nu_learned nu_size to_letterMarks to_names to_spelled to_rows to_alike to_near to_asks to_letters to_words to_askCount) sz [.ref (a 0)]) (gI (dC, dI) (tyz cB cI cJ cZ) (wX cB cI cJ cZ a (a 35) (a 4) ww_latestFault tp_bytes tp_size rd_fault rd_faultPlace rd_kind rd_start rd_at rd_number dr_letterMarks dr_names dr_spelled dr_rows dr_alike dr_near dr_asks dr_letters dr_words dr_askCount sh_lanes sh_sizes sh_cells la_xs la_ys la_heights la_ridgeXs la_ridgeHeights la_way la_blurs la_steps la_places la_ridges la_wayBlur la_wayLength bk_times bk_froms bk_asks bk_words bk_firsts bk_lies bk_held bk_size nu_learned z_nu_size to_letterMarks to_names to_spelled to_rows to_alike to_near to_asks to_letters to_words to_askCount) (va_A (wX cB cI cJ cZ a (a 35) (a 4) ww_latestFault tp_bytes tp_size rd_fault rd_faultPlace rd_kind rd_start rd_at rd_number dr_letterMarks dr_names dr_spelled dr_rows dr_alike dr_near dr_asks dr_letters dr_words dr_askCount sh_lanes sh_sizes sh_cells la_xs la_ys la_heights la_ridgeXs la_ridgeHeights la_way la_blurs la_steps la_places la_ridges la_wayBlur la_wayLength bk_times bk_froms bk_asks bk_words bk_firsts bk_lies bk_held bk_size nu_learned nu_size to_letterMarks to_names to_spelled to_rows to_alike to_near to_asks to_letters to_words to_askCount) sz) r0) 0 0 (va_A (wX cB cI cJ cZ a (a 35) (a 4) ww_latestFault tp_bytes tp_size rd_fault rd_faultPlace rd_kind rd_start rd_at rd_number dr_letterMarks dr_names dr_spelled dr_rows dr_alike dr_near dr_asks dr_letters dr_words dr_askCount sh_lanes sh_sizes sh_cells la_xs la_ys la_heights la_ridgeXs la_ridgeHeights la_way la_blurs la_steps la_places la_ridges la_wayBlur la_wayLength bk_times bk_froms bk_asks bk_words bk_firsts bk_lies bk_held bk_size nu_learned nu_size to_letterMarks to_names to_spelled to_rows to_alike to_near to_asks to_letters to_words to_askCount) sz) := by
  refine Met.ofW (cc := cX8_child) (maxL := 1) (ret := (some .int)) (by decide) rfl ?_
  intro p e s m args below meth c s₁ B hml hv
  obtain ⟨rfl, hsz, hP, hK, hD0, hE⟩ := hv
  have hx := B.exec
  have hb := B.bytes
  have hr := B.returns
  have hts := atoms_spec (ws := wsX8_child) B.pre
  have hown : s.vm.findClass RX8 = some m.cls := findClass_of_methodNamed B.named
  have hlocks := B.notSynchronized
  subst hsz
  have hD := hD0.self (sz := s.heap.size)
  have hA : ∀ q : Nat, s.heap.size ≤ q → va_A (wX cB cI cJ cZ a (a 35) (a 4) ww_latestFault tp_bytes tp_size rd_fault rd_faultPlace rd_kind rd_start rd_at rd_number dr_letterMarks dr_names dr_spelled dr_rows dr_alike dr_near dr_asks dr_letters dr_words dr_askCount sh_lanes sh_sizes sh_cells la_xs la_ys la_heights la_ridgeXs la_ridgeHeights la_way la_blurs la_steps la_places la_ridges la_wayBlur la_wayLength bk_times bk_froms bk_asks bk_words bk_firsts bk_lies bk_held bk_size nu_learned nu_size to_letterMarks to_names to_spelled to_rows to_alike to_near to_asks to_letters to_words to_askCount) s.heap.size q := fun q h => Or.inr h
  generalize va_A (wX cB cI cJ cZ a (a 35) (a 4) ww_latestFault tp_bytes tp_size rd_fault rd_faultPlace rd_kind rd_start rd_at rd_number dr_letterMarks dr_names dr_spelled dr_rows dr_alike dr_near dr_asks dr_letters dr_words dr_askCount sh_lanes sh_sizes sh_cells la_xs la_ys la_heights la_ridgeXs la_ridgeHeights la_way la_blurs la_steps la_places la_ridges la_wayBlur la_wayLength bk_times bk_froms bk_asks bk_words bk_firsts bk_lies bk_held bk_size nu_learned nu_size to_letterMarks to_names to_spelled to_rows to_alike to_near to_asks to_letters to_words to_askCount) s.heap.size = A at hD hA hE ⊢
  have hS : va_S A s.heap s.heap [] := va_S.rf
  have C0 : cxt cX8_child (some .int) 1 RX8 wsX8_child (dC, dI) (tyz cB cI cJ cZ) (E_X adK adV) A p s m ([.ref (a 0)] : List Value).toArray meth c := ⟨hx, hb, hr, hml, hown, hts, hlocks, hK, hA, hE⟩
  have hl := lv_entry ([.ref (a 0)]) (n := 1) (Nat.le_of_ble_eq_true rfl)
  rw [lg_entry_eq]
  generalize (lg_sl ([.ref (a 0)]) ++ List.replicate (1 - (lg_sl ([.ref (a 0)])).length) Slot.unset).toArray = ls at hl ⊢
  have hl : lv_has ls 1 [(0, .ref (a 0))] := hl
  have hw0 := hts (.fieldLink RX8 53 "WhistledWords" "nursery" "LWhistledWords$Nursery;") (by decide +kernel)
  have hw1 := hts (.fieldLink RX8 76 "WhistledWords$Nursery" "size" "I") (by decide +kernel)
  have hnX8 : ∀ w ∈ u_ws RX8 TX8 8, w ∈ wsX8_child := fun _ h => List.mem_cons_of_mem _ (List.mem_append_left _ (List.mem_append_right _ h))
  have hnX2 : ∀ w ∈ u_ws RX2 TX2 2, w ∈ wsX8_child := fun _ h => List.mem_cons_of_mem _ (List.mem_append_right _ h)
  unfold fX8_child at h
  refine lv_aload_n hx hb dX8_child_0 rfl (lv_at hl 0 rfl) ?_
  refine gX_ww_nursery hx hb hts hnX8 hown hK hP hw0 dX8_child_1 ?_
  refine gX_nursery_size hx hb hts hnX2 hown hK hP hw1 dX8_child_4 ?_
  refine lv_iconst (v := 4) hx hb dX8_child_7 (by decide) ?_
  refine lv_icmp_lt (tgt := 14) hx hb dX8_child_8 (by decide) (fun c1 => ?_) (fun c1 => ?_)
  · have h := it_use c1 h
    refine lv_aload_n hx hb dX8_child_14 rfl (lv_at hl 0 rfl) ?_
    refine gX_ww_nursery hx hb hts hnX8 hown hK hP hw0 dX8_child_15 ?_
    refine lv_dup hx hb dX8_child_18 rfl ?_
    refine gX_nursery_size hx hb hts hnX2 hown hK hP hw1 dX8_child_19 ?_
    refine lv_iconst (v := 1) hx hb dX8_child_22 (by decide) ?_
    refine lv_iadd hx hb dX8_child_23 ?_
    refine lv_topi (fun v2 ev2 => ?_)
    have h := nm_use ev2 h
    refine pX_nursery_size hx hb hts hnX2 hown hK hP hD hS hw1 dX8_child_24 (fun H locs hP hD hS => ?_)
    refine lv_aload_n hx hb dX8_child_27 rfl (lv_at hl 0 rfl) ?_
    refine gX_ww_nursery hx hb hts hnX8 hown hK hP hw0 dX8_child_28 ?_
    refine gX_nursery_size hx hb hts hnX2 hown hK hP hw1 dX8_child_31 ?_
    refine lv_iconst (v := 1) hx hb dX8_child_34 (by decide) ?_
    refine lv_isub hx hb dX8_child_35 ?_
    obtain ⟨er, ez0⟩ := rt2_use h
    subst ez0
    exact re_i hx hb hr hlocks hK hP hD hS er dX8_child_36
  · have h := ie_use c1 h
    refine lv_bipush (v := -3) hx hb dX8_child_11 (by decide) ?_
    obtain ⟨er, ez0⟩ := rt2_use h
    subst ez0
    exact re_i hx hb hr hlocks hK hP hD hS er dX8_child_13
set_option maxHeartbeats 4000000 in
set_option maxRecDepth 100000 in
theorem kX2_isChild (l : Launch) (n : Nat) (dC : Nat → ClassId) (dI : Nat → Nat → Nat) (cB cI cJ cZ : ClassId) (a : Nat → Nat) (adK adV : Nat → Nat) (sz : Nat) (ww_latestFault : Int32) (tp_bytes : Nat → Int32) (tp_size : Int32) (rd_fault : Int32) (rd_faultPlace : Int32) (rd_kind : Int32) (rd_start : Int32) (rd_at : Int32) (rd_number : Int32) (dr_letterMarks : Nat → Int32) (dr_names : Nat → Int64) (dr_spelled : Nat → Int32) (dr_rows : Nat → Int64) (dr_alike : Nat → Int32) (dr_near : Nat → Int32) (dr_asks : Nat → Int32) (dr_letters : Int32) (dr_words : Int32) (dr_askCount : Int32) (sh_lanes : Nat → Int32) (sh_sizes : Nat → Int32) (sh_cells : Nat → Int32) (la_xs : Nat → Int32) (la_ys : Nat → Int32) (la_heights : Nat → Int32) (la_ridgeXs : Nat → Int32) (la_ridgeHeights : Nat → Int32) (la_way : Nat → Int32) (la_blurs : Nat → Int32) (la_steps : Nat → Int32) (la_places : Int32) (la_ridges : Int32) (la_wayBlur : Int32) (la_wayLength : Int32) (bk_times : Nat → Int32) (bk_froms : Nat → Int32) (bk_asks : Nat → Int32) (bk_words : Nat → Int32) (bk_firsts : Nat → Int32) (bk_lies : Nat → Int32) (bk_held : Nat → Int32) (bk_size : Int32) (nu_learned : Nat → Int32) (nu_size : Int32) (to_letterMarks : Nat → Int32) (to_names : Nat → Int64) (to_spelled : Nat → Int32) (to_rows : Nat → Int64) (to_alike : Nat → Int32) (to_near : Nat → Int32) (to_asks : Nat → Int32) (to_letters : Int32) (to_words : Int32) (to_askCount : Int32) (x1 : Int32) (r0 : Int32) (h : fX2_isChild n nu_size x1 = some r0) : Met l yX2_isChild wsX2_isChild ({ frames := 0, cells := 0, slots := 0, locals := 0 }) (gP (dC, dI) (tyz cB cI cJ cZ) (E_X adK adV) (wX cB cI cJ cZ a (a 35) (a 4) ww_latestFault tp_bytes tp_size rd_fault rd_faultPlace rd_kind rd_start rd_at rd_number dr_letterMarks dr_names dr_spelled dr_rows dr_alike dr_near dr_asks dr_letters dr_words dr_askCount sh_lanes sh_sizes sh_cells la_xs la_ys la_heights la_ridgeXs la_ridgeHeights la_way la_blurs la_steps la_places la_ridges la_wayBlur la_wayLength bk_times bk_froms bk_asks bk_words bk_firsts bk_lies bk_held bk_size nu_learned nu_size to_letterMarks to_names to_spelled to_rows to_alike to_near to_asks to_letters to_words to_askCount) sz [.ref (a 33), .int x1]) (gI (dC, dI) (tyz cB cI cJ cZ) (wX cB cI cJ cZ a (a 35) (a 4) ww_latestFault tp_bytes tp_size rd_fault rd_faultPlace rd_kind rd_start rd_at rd_number dr_letterMarks dr_names dr_spelled dr_rows dr_alike dr_near dr_asks dr_letters dr_words dr_askCount sh_lanes sh_sizes sh_cells la_xs la_ys la_heights la_ridgeXs la_ridgeHeights la_way la_blurs la_steps la_places la_ridges la_wayBlur la_wayLength bk_times bk_froms bk_asks bk_words bk_firsts bk_lies bk_held bk_size nu_learned nu_size to_letterMarks to_names to_spelled to_rows to_alike to_near to_asks to_letters to_words to_askCount) (va_A (wX cB cI cJ cZ a (a 35) (a 4) ww_latestFault tp_bytes tp_size rd_fault rd_faultPlace rd_kind rd_start rd_at rd_number dr_letterMarks dr_names dr_spelled dr_rows dr_alike dr_near dr_asks dr_letters dr_words dr_askCount sh_lanes sh_sizes sh_cells la_xs la_ys la_heights la_ridgeXs la_ridgeHeights la_way la_blurs la_steps la_places la_ridges la_wayBlur la_wayLength bk_times bk_froms bk_asks bk_words bk_firsts bk_lies bk_held bk_size nu_learned nu_size to_letterMarks to_names to_spelled to_rows to_alike to_near to_asks to_letters to_words to_askCount) sz) r0) 0 0 (va_A (wX cB cI cJ cZ a (a 35) (a 4) ww_latestFault tp_bytes tp_size rd_fault rd_faultPlace rd_kind rd_start rd_at rd_number dr_letterMarks dr_names dr_spelled dr_rows dr_alike dr_near dr_asks dr_letters dr_words dr_askCount sh_lanes sh_sizes sh_cells la_xs la_ys la_heights la_ridgeXs la_ridgeHeights la_way la_blurs la_steps la_places la_ridges la_wayBlur la_wayLength bk_times bk_froms bk_asks bk_words bk_firsts bk_lies bk_held bk_size nu_learned nu_size to_letterMarks to_names to_spelled to_rows to_alike to_near to_asks to_letters to_words to_askCount) sz) := by
  refine Met.ofW (cc := cX2_isChild) (maxL := 2) (ret := (some .boolean)) (by decide) rfl ?_
  intro p e s m args below meth c s₁ B hml hv
  obtain ⟨rfl, hsz, hP, hK, hD0, hE⟩ := hv
  have hx := B.exec
  have hb := B.bytes
  have hr := B.returns
  have hts := atoms_spec (ws := wsX2_isChild) B.pre
  have hown : s.vm.findClass RX2 = some m.cls := findClass_of_methodNamed B.named
  have hlocks := B.notSynchronized
  subst hsz
  have hD := hD0.self (sz := s.heap.size)
  have hA : ∀ q : Nat, s.heap.size ≤ q → va_A (wX cB cI cJ cZ a (a 35) (a 4) ww_latestFault tp_bytes tp_size rd_fault rd_faultPlace rd_kind rd_start rd_at rd_number dr_letterMarks dr_names dr_spelled dr_rows dr_alike dr_near dr_asks dr_letters dr_words dr_askCount sh_lanes sh_sizes sh_cells la_xs la_ys la_heights la_ridgeXs la_ridgeHeights la_way la_blurs la_steps la_places la_ridges la_wayBlur la_wayLength bk_times bk_froms bk_asks bk_words bk_firsts bk_lies bk_held bk_size nu_learned nu_size to_letterMarks to_names to_spelled to_rows to_alike to_near to_asks to_letters to_words to_askCount) s.heap.size q := fun q h => Or.inr h
  generalize va_A (wX cB cI cJ cZ a (a 35) (a 4) ww_latestFault tp_bytes tp_size rd_fault rd_faultPlace rd_kind rd_start rd_at rd_number dr_letterMarks dr_names dr_spelled dr_rows dr_alike dr_near dr_asks dr_letters dr_words dr_askCount sh_lanes sh_sizes sh_cells la_xs la_ys la_heights la_ridgeXs la_ridgeHeights la_way la_blurs la_steps la_places la_ridges la_wayBlur la_wayLength bk_times bk_froms bk_asks bk_words bk_firsts bk_lies bk_held bk_size nu_learned nu_size to_letterMarks to_names to_spelled to_rows to_alike to_near to_asks to_letters to_words to_askCount) s.heap.size = A at hD hA hE ⊢
  have hS : va_S A s.heap s.heap [] := va_S.rf
  have C0 : cxt cX2_isChild (some .boolean) 2 RX2 wsX2_isChild (dC, dI) (tyz cB cI cJ cZ) (E_X adK adV) A p s m ([.ref (a 33), .int x1] : List Value).toArray meth c := ⟨hx, hb, hr, hml, hown, hts, hlocks, hK, hA, hE⟩
  have hl := lv_entry ([.ref (a 33), .int x1]) (n := 2) (Nat.le_of_ble_eq_true rfl)
  rw [lg_entry_eq]
  generalize (lg_sl ([.ref (a 33), .int x1]) ++ List.replicate (2 - (lg_sl ([.ref (a 33), .int x1])).length) Slot.unset).toArray = ls at hl ⊢
  have hl : lv_has ls 2 [(0, .ref (a 33)), (1, .int x1)] := hl
  have hw0 := hts (.fieldLink RX2 15 "WhistledWords$Nursery" "size" "I") (by decide +kernel)
  have hnX2 : ∀ w ∈ u_ws RX2 TX2 2, w ∈ wsX2_isChild := fun _ h => List.mem_cons_of_mem _ (List.mem_append_right _ h)
  unfold fX2_isChild at h
  refine lv_iload_n hx hb dX2_isChild_0 rfl (lv_at hl 1 rfl) ?_
  refine lv_if_lt (tgt := 16) hx hb dX2_isChild_1 (by decide) (fun c1 => ?_) (fun c1 => ?_)
  · have h := it_use c1 h
    refine lv_iconst (v := 0) hx hb dX2_isChild_16 (by decide) ?_
    obtain er := rt1_use h
    exact re_z hx hb hr hlocks hK hP hD hS (Or.inl rfl) er dX2_isChild_17
  · have h := ie_use c1 h
    refine lv_iload_n hx hb dX2_isChild_4 rfl (lv_at hl 1 rfl) ?_
    refine lv_aload_n hx hb dX2_isChild_5 rfl (lv_at hl 0 rfl) ?_
    refine gX_nursery_size hx hb hts hnX2 hown hK hP hw0 dX2_isChild_6 ?_
    refine lv_icmp_ge (tgt := 16) hx hb dX2_isChild_9 (by decide) (fun c2 => ?_) (fun c2 => ?_)
    · have h := it_use c2 h
      refine lv_iconst (v := 0) hx hb dX2_isChild_16 (by decide) ?_
      obtain er := rt1_use h
      exact re_z hx hb hr hlocks hK hP hD hS (Or.inl rfl) er dX2_isChild_17
    · have h := ie_use c2 h
      refine lv_iconst (v := 1) hx hb dX2_isChild_12 (by decide) ?_
      refine lv_goto (tgt := 17) hx hb dX2_isChild_13 (by decide) ?_
      obtain er := rt1_use h
      exact re_z hx hb hr hlocks hK hP hD hS (Or.inr rfl) er dX2_isChild_17
set_option maxHeartbeats 4000000 in
set_option maxRecDepth 100000 in
theorem kX2_teach (l : Launch) (n : Nat) (dC : Nat → ClassId) (dI : Nat → Nat → Nat) (cB cI cJ cZ : ClassId) (a : Nat → Nat) (adK adV : Nat → Nat) (sz : Nat) (ww_latestFault : Int32) (tp_bytes : Nat → Int32) (tp_size : Int32) (rd_fault : Int32) (rd_faultPlace : Int32) (rd_kind : Int32) (rd_start : Int32) (rd_at : Int32) (rd_number : Int32) (dr_letterMarks : Nat → Int32) (dr_names : Nat → Int64) (dr_spelled : Nat → Int32) (dr_rows : Nat → Int64) (dr_alike : Nat → Int32) (dr_near : Nat → Int32) (dr_asks : Nat → Int32) (dr_letters : Int32) (dr_words : Int32) (dr_askCount : Int32) (sh_lanes : Nat → Int32) (sh_sizes : Nat → Int32) (sh_cells : Nat → Int32) (la_xs : Nat → Int32) (la_ys : Nat → Int32) (la_heights : Nat → Int32) (la_ridgeXs : Nat → Int32) (la_ridgeHeights : Nat → Int32) (la_way : Nat → Int32) (la_blurs : Nat → Int32) (la_steps : Nat → Int32) (la_places : Int32) (la_ridges : Int32) (la_wayBlur : Int32) (la_wayLength : Int32) (bk_times : Nat → Int32) (bk_froms : Nat → Int32) (bk_asks : Nat → Int32) (bk_words : Nat → Int32) (bk_firsts : Nat → Int32) (bk_lies : Nat → Int32) (bk_held : Nat → Int32) (bk_size : Int32) (nu_learned : Nat → Int32) (nu_size : Int32) (to_letterMarks : Nat → Int32) (to_names : Nat → Int64) (to_spelled : Nat → Int32) (to_rows : Nat → Int64) (to_alike : Nat → Int32) (to_near : Nat → Int32) (to_asks : Nat → Int32) (to_letters : Int32) (to_words : Int32) (to_askCount : Int32) (x1 : Int32) (x2 : Int32) (x3 : Int32) (r0 : Int32) (z_nu_learned : Nat → Int32) (h : fX2_teach n nu_learned x1 x2 x3 = some (r0, z_nu_learned)) : Met l yX2_teach wsX2_teach ({ frames := 1, cells := 0, slots := 0, locals := 21 }) (gP (dC, dI) (tyz cB cI cJ cZ) (E_X adK adV) (wX cB cI cJ cZ a (a 35) (a 4) ww_latestFault tp_bytes tp_size rd_fault rd_faultPlace rd_kind rd_start rd_at rd_number dr_letterMarks dr_names dr_spelled dr_rows dr_alike dr_near dr_asks dr_letters dr_words dr_askCount sh_lanes sh_sizes sh_cells la_xs la_ys la_heights la_ridgeXs la_ridgeHeights la_way la_blurs la_steps la_places la_ridges la_wayBlur la_wayLength bk_times bk_froms bk_asks bk_words bk_firsts bk_lies bk_held bk_size nu_learned nu_size to_letterMarks to_names to_spelled to_rows to_alike to_near to_asks to_letters to_words to_askCount) sz [.ref (a 33), .int x1, .int x2, .int x3]) (gI (dC, dI) (tyz cB cI cJ cZ) (wX cB cI cJ cZ a (a 35) (a 4) ww_latestFault tp_bytes tp_size rd_fault rd_faultPlace rd_kind rd_start rd_at rd_number dr_letterMarks dr_names dr_spelled dr_rows dr_alike dr_near dr_asks dr_letters dr_words dr_askCount sh_lanes sh_sizes sh_cells la_xs la_ys la_heights la_ridgeXs la_ridgeHeights la_way la_blurs la_steps la_places la_ridges la_wayBlur la_wayLength bk_times bk_froms bk_asks bk_words bk_firsts bk_lies bk_held bk_size z_nu_learned nu_size to_letterMarks to_names to_spelled to_rows to_alike to_near to_asks to_letters to_words to_askCount) (va_A (wX cB cI cJ cZ a (a 35) (a 4) ww_latestFault tp_bytes tp_size rd_fault rd_faultPlace rd_kind rd_start rd_at rd_number dr_letterMarks dr_names dr_spelled dr_rows dr_alike dr_near dr_asks dr_letters dr_words dr_askCount sh_lanes sh_sizes sh_cells la_xs la_ys la_heights la_ridgeXs la_ridgeHeights la_way la_blurs la_steps la_places la_ridges la_wayBlur la_wayLength bk_times bk_froms bk_asks bk_words bk_firsts bk_lies bk_held bk_size nu_learned nu_size to_letterMarks to_names to_spelled to_rows to_alike to_near to_asks to_letters to_words to_askCount) sz) r0) 0 0 (va_A (wX cB cI cJ cZ a (a 35) (a 4) ww_latestFault tp_bytes tp_size rd_fault rd_faultPlace rd_kind rd_start rd_at rd_number dr_letterMarks dr_names dr_spelled dr_rows dr_alike dr_near dr_asks dr_letters dr_words dr_askCount sh_lanes sh_sizes sh_cells la_xs la_ys la_heights la_ridgeXs la_ridgeHeights la_way la_blurs la_steps la_places la_ridges la_wayBlur la_wayLength bk_times bk_froms bk_asks bk_words bk_firsts bk_lies bk_held bk_size nu_learned nu_size to_letterMarks to_names to_spelled to_rows to_alike to_near to_asks to_letters to_words to_askCount) sz) := by
  refine Met.ofW (cc := cX2_teach) (maxL := 5) (ret := (some .boolean)) (by decide) rfl ?_
  intro p e s m args below meth c s₁ B hml hv
  obtain ⟨rfl, hsz, hP, hK, hD0, hE⟩ := hv
  have hx := B.exec
  have hb := B.bytes
  have hr := B.returns
  have hts := atoms_spec (ws := wsX2_teach) B.pre
  have hown : s.vm.findClass RX2 = some m.cls := findClass_of_methodNamed B.named
  have hlocks := B.notSynchronized
  subst hsz
  have hD := hD0.self (sz := s.heap.size)
  have hA : ∀ q : Nat, s.heap.size ≤ q → va_A (wX cB cI cJ cZ a (a 35) (a 4) ww_latestFault tp_bytes tp_size rd_fault rd_faultPlace rd_kind rd_start rd_at rd_number dr_letterMarks dr_names dr_spelled dr_rows dr_alike dr_near dr_asks dr_letters dr_words dr_askCount sh_lanes sh_sizes sh_cells la_xs la_ys la_heights la_ridgeXs la_ridgeHeights la_way la_blurs la_steps la_places la_ridges la_wayBlur la_wayLength bk_times bk_froms bk_asks bk_words bk_firsts bk_lies bk_held bk_size nu_learned nu_size to_letterMarks to_names to_spelled to_rows to_alike to_near to_asks to_letters to_words to_askCount) s.heap.size q := fun q h => Or.inr h
  generalize va_A (wX cB cI cJ cZ a (a 35) (a 4) ww_latestFault tp_bytes tp_size rd_fault rd_faultPlace rd_kind rd_start rd_at rd_number dr_letterMarks dr_names dr_spelled dr_rows dr_alike dr_near dr_asks dr_letters dr_words dr_askCount sh_lanes sh_sizes sh_cells la_xs la_ys la_heights la_ridgeXs la_ridgeHeights la_way la_blurs la_steps la_places la_ridges la_wayBlur la_wayLength bk_times bk_froms bk_asks bk_words bk_firsts bk_lies bk_held bk_size nu_learned nu_size to_letterMarks to_names to_spelled to_rows to_alike to_near to_asks to_letters to_words to_askCount) s.heap.size = A at hD hA hE ⊢
  have hS : va_S A s.heap s.heap [] := va_S.rf
  have C0 : cxt cX2_teach (some .boolean) 5 RX2 wsX2_teach (dC, dI) (tyz cB cI cJ cZ) (E_X adK adV) A p s m ([.ref (a 33), .int x1, .int x2, .int x3] : List Value).toArray meth c := ⟨hx, hb, hr, hml, hown, hts, hlocks, hK, hA, hE⟩
  have hl := lv_entry ([.ref (a 33), .int x1, .int x2, .int x3]) (n := 5) (Nat.le_of_ble_eq_true rfl)
  rw [lg_entry_eq]
  generalize (lg_sl ([.ref (a 33), .int x1, .int x2, .int x3]) ++ List.replicate (5 - (lg_sl ([.ref (a 33), .int x1, .int x2, .int x3])).length) Slot.unset).toArray = ls at hl ⊢
  have hl : lv_has ls 5 [(0, .ref (a 33)), (1, .int x1), (2, .int x2), (3, .int x3)] := hl
  have hw0 := hts (.fieldLink RX2 9 "WhistledWords$Nursery" "learned" "[I") (by decide +kernel)
  have hw1 := hts (.initialized RX8) (by decide +kernel)
  have hw2 := hts (.static yX8_isIn) (by decide +kernel)
  have hnX2 : ∀ w ∈ u_ws RX2 TX2 2, w ∈ wsX2_teach := fun _ h => List.mem_cons_of_mem _ (List.mem_append_right _ h)
  unfold fX2_teach at h
  refine lv_iload_n hx hb dX2_teach_0 rfl (lv_at hl 1 rfl) ?_
  refine lv_bipush (v := 16) hx hb dX2_teach_1 (by decide) ?_
  refine lv_imul hx hb dX2_teach_3 ?_
  refine lv_topi (fun v1 ev1 => ?_)
  have h := nm_use ev1 h
  refine lv_istore (lv' := [(4, .int v1), (0, .ref (a 33)), (1, .int x1), (2, .int x2), (3, .int x3)]) hx hb dX2_teach_4 hl (by decide) rfl (fun ls hl => ?_)
  refine lv_aload_n hx hb dX2_teach_6 rfl (lv_at hl 1 rfl) ?_
  refine gX_nursery_learned hx hb hts hnX2 hown hK hP hw0 dX2_teach_7 ?_
  refine lv_iload hx hb dX2_teach_10 (lv_at hl 0 rfl) ?_
  refine lv_iload_n hx hb dX2_teach_12 rfl (lv_at hl 3 rfl) ?_
  refine lv_iadd hx hb dX2_teach_13 ?_
  obtain ⟨hiv2, h⟩ := ar_use h
  refine lX_nursery_learned hx hb hK hP hiv2 dX2_teach_14 ?_
  refine lv_topi (fun v2 ev2 => ?_)
  have h := h v2 ev2
  refine lv_iload_n hx hb dX2_teach_15 rfl (lv_at hl 4 rfl) ?_
  obtain ⟨v3, hc, h⟩ := bd1_use h
  refine cn_i (As := [.int v2, .int x3]) (rest := []) ⟨hx, hb, hml, hown, hts⟩ (kX8_isIn l n v2 x3 v3 hc) ⟨va_cnB 2 hts ggX2_teach_X8_isIn rfl rfl rfl (hE.1.1) hw1 (by decide +kernel) ⟨Nat.le_of_ble_eq_true rfl, Nat.le_of_ble_eq_true rfl⟩, hw2, trivial⟩ hP hS rfl hl.1 rfl (Nat.le_of_ble_eq_true rfl) dX2_teach_16 ⟨Nat.zero_le _, Nat.zero_le _⟩ (fun H locs hP hS => ?_)
  refine lv_if_eq (tgt := 24) hx hb dX2_teach_19 (by decide) (fun c4 => ?_) (fun c4 => ?_)
  · have h := it_use c4 h
    refine lv_aload_n hx hb dX2_teach_24 rfl (lv_at hl 1 rfl) ?_
    refine gX_nursery_learned hx hb hts hnX2 hown hK hP hw0 dX2_teach_25 ?_
    refine lv_iload hx hb dX2_teach_28 (lv_at hl 0 rfl) ?_
    refine lv_iload_n hx hb dX2_teach_30 rfl (lv_at hl 3 rfl) ?_
    refine lv_iadd hx hb dX2_teach_31 ?_
    refine lv_dup2_11 hx hb dX2_teach_32 rfl rfl ?_
    obtain ⟨hiv5, h⟩ := ar_use h
    refine lX_nursery_learned hx hb hK hP hiv5 dX2_teach_33 ?_
    refine lv_topi (fun v5 ev5 => ?_)
    have h := h v5 ev5
    refine lv_iconst (v := 1) hx hb dX2_teach_34 (by decide) ?_
    refine lv_iload_n hx hb dX2_teach_35 rfl (lv_at hl 4 rfl) ?_
    refine lv_ishl hx hb dX2_teach_36 ?_
    refine lv_ior hx hb dX2_teach_37 ?_
    obtain ⟨hif6, f6, ef6, h⟩ := aw_use h
    refine sX_nursery_learned hx hb hK hP hD hS hif6 ef6 dX2_teach_38 (fun H locs hP hD hS => ?_)
    refine lv_aload_n hx hb dX2_teach_39 rfl (lv_at hl 1 rfl) ?_
    refine gX_nursery_learned hx hb hts hnX2 hown hK hP hw0 dX2_teach_40 ?_
    refine lv_iload hx hb dX2_teach_43 (lv_at hl 0 rfl) ?_
    refine lv_iload_n hx hb dX2_teach_45 rfl (lv_at hl 4 rfl) ?_
    refine lv_iadd hx hb dX2_teach_46 ?_
    refine lv_dup2_11 hx hb dX2_teach_47 rfl rfl ?_
    obtain ⟨hiv7, h⟩ := ar_use h
    refine lX_nursery_learned hx hb hK hP hiv7 dX2_teach_48 ?_
    refine lv_topi (fun v7 ev7 => ?_)
    have h := h v7 ev7
    refine lv_iconst (v := 1) hx hb dX2_teach_49 (by decide) ?_
    refine lv_iload_n hx hb dX2_teach_50 rfl (lv_at hl 3 rfl) ?_
    refine lv_ishl hx hb dX2_teach_51 ?_
    refine lv_ior hx hb dX2_teach_52 ?_
    obtain ⟨hif8, f8, ef8, h⟩ := aw_use h
    refine sX_nursery_learned hx hb hK hP hD hS hif8 ef8 dX2_teach_53 (fun H locs hP hD hS => ?_)
    refine lv_iconst (v := 1) hx hb dX2_teach_54 (by decide) ?_
    obtain ⟨er, ez0⟩ := rt2_use h
    subst ez0
    exact re_z hx hb hr hlocks hK hP hD hS (Or.inr rfl) er dX2_teach_55
  · have h := ie_use c4 h
    refine lv_iconst (v := 0) hx hb dX2_teach_22 (by decide) ?_
    obtain ⟨er, ez0⟩ := rt2_use h
    subst ez0
    exact re_z hx hb hr hlocks hK hP hD hS (Or.inl rfl) er dX2_teach_23
set_option maxHeartbeats 4000000 in
set_option maxRecDepth 100000 in
theorem kX8_learn (l : Launch) (n : Nat) (dC : Nat → ClassId) (dI : Nat → Nat → Nat) (cB cI cJ cZ : ClassId) (a : Nat → Nat) (adK adV : Nat → Nat) (sz : Nat) (ww_latestFault : Int32) (tp_bytes : Nat → Int32) (tp_size : Int32) (rd_fault : Int32) (rd_faultPlace : Int32) (rd_kind : Int32) (rd_start : Int32) (rd_at : Int32) (rd_number : Int32) (dr_letterMarks : Nat → Int32) (dr_names : Nat → Int64) (dr_spelled : Nat → Int32) (dr_rows : Nat → Int64) (dr_alike : Nat → Int32) (dr_near : Nat → Int32) (dr_asks : Nat → Int32) (dr_letters : Int32) (dr_words : Int32) (dr_askCount : Int32) (sh_lanes : Nat → Int32) (sh_sizes : Nat → Int32) (sh_cells : Nat → Int32) (la_xs : Nat → Int32) (la_ys : Nat → Int32) (la_heights : Nat → Int32) (la_ridgeXs : Nat → Int32) (la_ridgeHeights : Nat → Int32) (la_way : Nat → Int32) (la_blurs : Nat → Int32) (la_steps : Nat → Int32) (la_places : Int32) (la_ridges : Int32) (la_wayBlur : Int32) (la_wayLength : Int32) (bk_times : Nat → Int32) (bk_froms : Nat → Int32) (bk_asks : Nat → Int32) (bk_words : Nat → Int32) (bk_firsts : Nat → Int32) (bk_lies : Nat → Int32) (bk_held : Nat → Int32) (bk_size : Int32) (nu_learned : Nat → Int32) (nu_size : Int32) (to_letterMarks : Nat → Int32) (to_names : Nat → Int64) (to_spelled : Nat → Int32) (to_rows : Nat → Int64) (to_alike : Nat → Int32) (to_near : Nat → Int32) (to_asks : Nat → Int32) (to_letters : Int32) (to_words : Int32) (to_askCount : Int32) (x1 : Int32) (x2 : Int32) (x3 : Int32) (r0 : Int32) (z_nu_learned : Nat → Int32) (h : fX8_learn n nu_learned nu_size to_words x1 x2 x3 = some (r0, z_nu_learned)) : Met l yX8_learn wsX8_learn ({ frames := 2, cells := 0, slots := 0, locals := 45 }) (gP (dC, dI) (tyz cB cI cJ cZ) (E_X adK adV) (wX cB cI cJ cZ a (a 35) (a 4) ww_latestFault tp_bytes tp_size rd_fault rd_faultPlace rd_kind rd_start rd_at rd_number dr_letterMarks dr_names dr_spelled dr_rows dr_alike dr_near dr_asks dr_letters dr_words dr_askCount sh_lanes sh_sizes sh_cells la_xs la_ys la_heights la_ridgeXs la_ridgeHeights la_way la_blurs la_steps la_places la_ridges la_wayBlur la_wayLength bk_times bk_froms bk_asks bk_words bk_firsts bk_lies bk_held bk_size nu_learned nu_size to_letterMarks to_names to_spelled to_rows to_alike to_near to_asks to_letters to_words to_askCount) sz [.ref (a 0), .int x1, .int x2, .int x3]) (gI (dC, dI) (tyz cB cI cJ cZ) (wX cB cI cJ cZ a (a 35) (a 4) ww_latestFault tp_bytes tp_size rd_fault rd_faultPlace rd_kind rd_start rd_at rd_number dr_letterMarks dr_names dr_spelled dr_rows dr_alike dr_near dr_asks dr_letters dr_words dr_askCount sh_lanes sh_sizes sh_cells la_xs la_ys la_heights la_ridgeXs la_ridgeHeights la_way la_blurs la_steps la_places la_ridges la_wayBlur la_wayLength bk_times bk_froms bk_asks bk_words bk_firsts bk_lies bk_held bk_size z_nu_learned nu_size to_letterMarks to_names to_spelled to_rows to_alike to_near to_asks to_letters to_words to_askCount) (va_A (wX cB cI cJ cZ a (a 35) (a 4) ww_latestFault tp_bytes tp_size rd_fault rd_faultPlace rd_kind rd_start rd_at rd_number dr_letterMarks dr_names dr_spelled dr_rows dr_alike dr_near dr_asks dr_letters dr_words dr_askCount sh_lanes sh_sizes sh_cells la_xs la_ys la_heights la_ridgeXs la_ridgeHeights la_way la_blurs la_steps la_places la_ridges la_wayBlur la_wayLength bk_times bk_froms bk_asks bk_words bk_firsts bk_lies bk_held bk_size nu_learned nu_size to_letterMarks to_names to_spelled to_rows to_alike to_near to_asks to_letters to_words to_askCount) sz) r0) 0 0 (va_A (wX cB cI cJ cZ a (a 35) (a 4) ww_latestFault tp_bytes tp_size rd_fault rd_faultPlace rd_kind rd_start rd_at rd_number dr_letterMarks dr_names dr_spelled dr_rows dr_alike dr_near dr_asks dr_letters dr_words dr_askCount sh_lanes sh_sizes sh_cells la_xs la_ys la_heights la_ridgeXs la_ridgeHeights la_way la_blurs la_steps la_places la_ridges la_wayBlur la_wayLength bk_times bk_froms bk_asks bk_words bk_firsts bk_lies bk_held bk_size nu_learned nu_size to_letterMarks to_names to_spelled to_rows to_alike to_near to_asks to_letters to_words to_askCount) sz) := by
  refine Met.ofW (cc := cX8_learn) (maxL := 4) (ret := (some .int)) (by decide) rfl ?_
  intro p e s m args below meth c s₁ B hml hv
  obtain ⟨rfl, hsz, hP, hK, hD0, hE⟩ := hv
  have hx := B.exec
  have hb := B.bytes
  have hr := B.returns
  have hts := atoms_spec (ws := wsX8_learn) B.pre
  have hown : s.vm.findClass RX8 = some m.cls := findClass_of_methodNamed B.named
  have hlocks := B.notSynchronized
  subst hsz
  have hD := hD0.self (sz := s.heap.size)
  have hA : ∀ q : Nat, s.heap.size ≤ q → va_A (wX cB cI cJ cZ a (a 35) (a 4) ww_latestFault tp_bytes tp_size rd_fault rd_faultPlace rd_kind rd_start rd_at rd_number dr_letterMarks dr_names dr_spelled dr_rows dr_alike dr_near dr_asks dr_letters dr_words dr_askCount sh_lanes sh_sizes sh_cells la_xs la_ys la_heights la_ridgeXs la_ridgeHeights la_way la_blurs la_steps la_places la_ridges la_wayBlur la_wayLength bk_times bk_froms bk_asks bk_words bk_firsts bk_lies bk_held bk_size nu_learned nu_size to_letterMarks to_names to_spelled to_rows to_alike to_near to_asks to_letters to_words to_askCount) s.heap.size q := fun q h => Or.inr h
  generalize va_A (wX cB cI cJ cZ a (a 35) (a 4) ww_latestFault tp_bytes tp_size rd_fault rd_faultPlace rd_kind rd_start rd_at rd_number dr_letterMarks dr_names dr_spelled dr_rows dr_alike dr_near dr_asks dr_letters dr_words dr_askCount sh_lanes sh_sizes sh_cells la_xs la_ys la_heights la_ridgeXs la_ridgeHeights la_way la_blurs la_steps la_places la_ridges la_wayBlur la_wayLength bk_times bk_froms bk_asks bk_words bk_firsts bk_lies bk_held bk_size nu_learned nu_size to_letterMarks to_names to_spelled to_rows to_alike to_near to_asks to_letters to_words to_askCount) s.heap.size = A at hD hA hE ⊢
  have hS : va_S A s.heap s.heap [] := va_S.rf
  have C0 : cxt cX8_learn (some .int) 4 RX8 wsX8_learn (dC, dI) (tyz cB cI cJ cZ) (E_X adK adV) A p s m ([.ref (a 0), .int x1, .int x2, .int x3] : List Value).toArray meth c := ⟨hx, hb, hr, hml, hown, hts, hlocks, hK, hA, hE⟩
  have hl := lv_entry ([.ref (a 0), .int x1, .int x2, .int x3]) (n := 4) (Nat.le_of_ble_eq_true rfl)
  rw [lg_entry_eq]
  generalize (lg_sl ([.ref (a 0), .int x1, .int x2, .int x3]) ++ List.replicate (4 - (lg_sl ([.ref (a 0), .int x1, .int x2, .int x3])).length) Slot.unset).toArray = ls at hl ⊢
  have hl : lv_has ls 4 [(0, .ref (a 0)), (1, .int x1), (2, .int x2), (3, .int x3)] := hl
  have hw0 := hts (.fieldLink RX8 53 "WhistledWords" "nursery" "LWhistledWords$Nursery;") (by decide +kernel)
  have hw1 := hts (.fieldLink RX8 60 "WhistledWords" "told" "LWhistledWords$Tongue;") (by decide +kernel)
  have hnX8 : ∀ w ∈ u_ws RX8 TX8 8, w ∈ wsX8_learn := fun _ h => List.mem_cons_of_mem _ (List.mem_append_left _ (List.mem_append_left _ (List.mem_append_right _ h)))
  unfold fX8_learn at h
  refine lv_aload_n hx hb dX8_learn_0 rfl (lv_at hl 0 rfl) ?_
  refine gX_ww_nursery hx hb hts hnX8 hown hK hP hw0 dX8_learn_1 ?_
  refine lv_iload_n hx hb dX8_learn_4 rfl (lv_at hl 1 rfl) ?_
  obtain ⟨v1, hc, h⟩ := bd1_use h
  refine cv_i (As := [.int x1]) (rest := []) ⟨hx, hb, hml, hown, hts⟩ (kX2_isChild l n dC dI cB cI cJ cZ a adK adV _ ww_latestFault tp_bytes tp_size rd_fault rd_faultPlace rd_kind rd_start rd_at rd_number dr_letterMarks dr_names dr_spelled dr_rows dr_alike dr_near dr_asks dr_letters dr_words dr_askCount sh_lanes sh_sizes sh_cells la_xs la_ys la_heights la_ridgeXs la_ridgeHeights la_way la_blurs la_steps la_places la_ridges la_wayBlur la_wayLength bk_times bk_froms bk_asks bk_words bk_firsts bk_lies bk_held bk_size nu_learned nu_size to_letterMarks to_names to_spelled to_rows to_alike to_near to_asks to_letters to_words to_askCount x1 v1 hc) (cwV 1 hts gX8_learn_X2_isChild rfl rfl rfl (by decide +kernel) ⟨Nat.le_of_ble_eq_true rfl, Nat.le_of_ble_eq_true rfl⟩) EB_X hE hK hP hD hS hA 33 (ci := 2) rfl rfl rfl rfl hl.1 rfl (Nat.le_of_ble_eq_true rfl) dX8_learn_5 ⟨Nat.zero_le _, Nat.zero_le _⟩ (fun H locs hP hD hS => ?_)
  refine lv_if_eq (tgt := 38) hx hb dX8_learn_8 (by decide) (fun c2 => ?_) (fun c2 => ?_)
  · have h := it_use c2 h
    refine lv_iconst (v := -1) hx hb dX8_learn_38 (by decide) ?_
    obtain ⟨er, ez0⟩ := rt2_use h
    subst ez0
    exact re_i hx hb hr hlocks hK hP hD hS er dX8_learn_39
  · have h := ie_use c2 h
    refine lv_aload_n hx hb dX8_learn_11 rfl (lv_at hl 0 rfl) ?_
    refine gX_ww_told hx hb hts hnX8 hown hK hP hw1 dX8_learn_12 ?_
    refine lv_iload_n hx hb dX8_learn_15 rfl (lv_at hl 2 rfl) ?_
    obtain ⟨v3, hc, h⟩ := bd1_use h
    refine cv_i (As := [.int x2]) (rest := []) ⟨hx, hb, hml, hown, hts⟩ (kX7_isWord l n dC dI cB cI cJ cZ a adK adV _ ww_latestFault tp_bytes tp_size rd_fault rd_faultPlace rd_kind rd_start rd_at rd_number dr_letterMarks dr_names dr_spelled dr_rows dr_alike dr_near dr_asks dr_letters dr_words dr_askCount sh_lanes sh_sizes sh_cells la_xs la_ys la_heights la_ridgeXs la_ridgeHeights la_way la_blurs la_steps la_places la_ridges la_wayBlur la_wayLength bk_times bk_froms bk_asks bk_words bk_firsts bk_lies bk_held bk_size nu_learned nu_size to_letterMarks to_names to_spelled to_rows to_alike to_near to_asks to_letters to_words to_askCount x2 v3 hc) (cwV 1 hts gX8_learn_X7_isWord rfl rfl rfl (by decide +kernel) ⟨Nat.le_of_ble_eq_true rfl, Nat.le_of_ble_eq_true rfl⟩) EB_X hE hK hP hD hS hA 35 (ci := 6) rfl rfl rfl rfl hl.1 rfl (Nat.le_of_ble_eq_true rfl) dX8_learn_16 ⟨Nat.zero_le _, Nat.zero_le _⟩ (fun H locs hP hD hS => ?_)
    refine lv_if_eq (tgt := 38) hx hb dX8_learn_19 (by decide) (fun c4 => ?_) (fun c4 => ?_)
    · have h := it_use c4 h
      refine lv_iconst (v := -1) hx hb dX8_learn_38 (by decide) ?_
      obtain ⟨er, ez0⟩ := rt2_use h
      subst ez0
      exact re_i hx hb hr hlocks hK hP hD hS er dX8_learn_39
    · have h := ie_use c4 h
      refine lv_aload_n hx hb dX8_learn_22 rfl (lv_at hl 0 rfl) ?_
      refine gX_ww_told hx hb hts hnX8 hown hK hP hw1 dX8_learn_23 ?_
      refine lv_iload_n hx hb dX8_learn_26 rfl (lv_at hl 3 rfl) ?_
      obtain ⟨v5, hc, h⟩ := bd1_use h
      refine cv_i (As := [.int x3]) (rest := []) ⟨hx, hb, hml, hown, hts⟩ (kX7_isWord l n dC dI cB cI cJ cZ a adK adV _ ww_latestFault tp_bytes tp_size rd_fault rd_faultPlace rd_kind rd_start rd_at rd_number dr_letterMarks dr_names dr_spelled dr_rows dr_alike dr_near dr_asks dr_letters dr_words dr_askCount sh_lanes sh_sizes sh_cells la_xs la_ys la_heights la_ridgeXs la_ridgeHeights la_way la_blurs la_steps la_places la_ridges la_wayBlur la_wayLength bk_times bk_froms bk_asks bk_words bk_firsts bk_lies bk_held bk_size nu_learned nu_size to_letterMarks to_names to_spelled to_rows to_alike to_near to_asks to_letters to_words to_askCount x3 v5 hc) (cwV 1 hts gX8_learn_X7_isWord rfl rfl rfl (by decide +kernel) ⟨Nat.le_of_ble_eq_true rfl, Nat.le_of_ble_eq_true rfl⟩) EB_X hE hK hP hD hS hA 35 (ci := 6) rfl rfl rfl rfl hl.1 rfl (Nat.le_of_ble_eq_true rfl) dX8_learn_27 ⟨Nat.zero_le _, Nat.zero_le _⟩ (fun H locs hP hD hS => ?_)
      refine lv_if_eq (tgt := 38) hx hb dX8_learn_30 (by decide) (fun c6 => ?_) (fun c6 => ?_)
      · have h := it_use c6 h
        refine lv_iconst (v := -1) hx hb dX8_learn_38 (by decide) ?_
        obtain ⟨er, ez0⟩ := rt2_use h
        subst ez0
        exact re_i hx hb hr hlocks hK hP hD hS er dX8_learn_39
      · have h := ie_use c6 h
        refine lv_iload_n hx hb dX8_learn_33 rfl (lv_at hl 2 rfl) ?_
        refine lv_iload_n hx hb dX8_learn_34 rfl (lv_at hl 3 rfl) ?_
        refine lv_icmp_ne (tgt := 40) hx hb dX8_learn_35 (by decide) (fun c7 => ?_) (fun c7 => ?_)
        · have h := ie_use c7 h
          refine lv_aload_n hx hb dX8_learn_40 rfl (lv_at hl 0 rfl) ?_
          refine gX_ww_nursery hx hb hts hnX8 hown hK hP hw0 dX8_learn_41 ?_
          refine lv_iload_n hx hb dX8_learn_44 rfl (lv_at hl 1 rfl) ?_
          refine lv_iload_n hx hb dX8_learn_45 rfl (lv_at hl 2 rfl) ?_
          refine lv_iload_n hx hb dX8_learn_46 rfl (lv_at hl 3 rfl) ?_
          obtain ⟨v8, f9, hc, h⟩ := bd2_use h
          refine cv_i (As := [.int x1, .int x2, .int x3]) (rest := []) ⟨hx, hb, hml, hown, hts⟩ (kX2_teach l n dC dI cB cI cJ cZ a adK adV _ ww_latestFault tp_bytes tp_size rd_fault rd_faultPlace rd_kind rd_start rd_at rd_number dr_letterMarks dr_names dr_spelled dr_rows dr_alike dr_near dr_asks dr_letters dr_words dr_askCount sh_lanes sh_sizes sh_cells la_xs la_ys la_heights la_ridgeXs la_ridgeHeights la_way la_blurs la_steps la_places la_ridges la_wayBlur la_wayLength bk_times bk_froms bk_asks bk_words bk_firsts bk_lies bk_held bk_size nu_learned nu_size to_letterMarks to_names to_spelled to_rows to_alike to_near to_asks to_letters to_words to_askCount x1 x2 x3 v8 f9 hc) (cwV 3 hts gX8_learn_X2_teach rfl rfl rfl (by decide +kernel) ⟨Nat.le_of_ble_eq_true rfl, Nat.le_of_ble_eq_true rfl⟩) EB_X hE hK hP hD hS hA 33 (ci := 2) rfl rfl rfl rfl hl.1 rfl (Nat.le_of_ble_eq_true rfl) dX8_learn_47 ⟨Nat.zero_le _, Nat.zero_le _⟩ (fun H locs hP hD hS => ?_)
          refine lv_if_eq (tgt := 57) hx hb dX8_learn_50 (by decide) (fun c10 => ?_) (fun c10 => ?_)
          · have h := it_use c10 h
            refine lv_iconst (v := 0) hx hb dX8_learn_57 (by decide) ?_
            obtain ⟨er, ez0⟩ := rt2_use h
            subst ez0
            exact re_i hx hb hr hlocks hK hP hD hS er dX8_learn_58
          · have h := ie_use c10 h
            refine lv_iconst (v := 1) hx hb dX8_learn_53 (by decide) ?_
            refine lv_goto (tgt := 58) hx hb dX8_learn_54 (by decide) ?_
            obtain ⟨er, ez0⟩ := rt2_use h
            subst ez0
            exact re_i hx hb hr hlocks hK hP hD hS er dX8_learn_58
        · have h := it_use c7 h
          refine lv_iconst (v := -1) hx hb dX8_learn_38 (by decide) ?_
          obtain ⟨er, ez0⟩ := rt2_use h
          subst ez0
          exact re_i hx hb hr hlocks hK hP hD hS er dX8_learn_39
set_option maxHeartbeats 4000000 in
set_option maxRecDepth 100000 in
theorem kX2_learnedPairs_p4_r {p : Program} {l : Launch} {e : Env} {s : State} {m : MethodId} {args : Array Value} {below : List Frame} {meth : Method} {c : Code} {A : Nat → Prop} (dC : Nat → ClassId) (dI : Nat → Nat → Nat) (cB cI cJ cZ : ClassId) (a : Nat → Nat) (adK adV : Nat → Nat) (C0 : cxt cX2_learnedPairs (some .int) 4 RX2 wsX2_learnedPairs (dC, dI) (tyz cB cI cJ cZ) (E_X adK adV) A p s m args meth c) (n : Nat) (ww_latestFault : Int32) (tp_bytes : Nat → Int32) (tp_size : Int32) (rd_fault : Int32) (rd_faultPlace : Int32) (rd_kind : Int32) (rd_start : Int32) (rd_at : Int32) (rd_number : Int32) (dr_letterMarks : Nat → Int32) (dr_names : Nat → Int64) (dr_spelled : Nat → Int32) (dr_rows : Nat → Int64) (dr_alike : Nat → Int32) (dr_near : Nat → Int32) (dr_asks : Nat → Int32) (dr_letters : Int32) (dr_words : Int32) (dr_askCount : Int32) (sh_lanes : Nat → Int32) (sh_sizes : Nat → Int32) (sh_cells : Nat → Int32) (la_xs : Nat → Int32) (la_ys : Nat → Int32) (la_heights : Nat → Int32) (la_ridgeXs : Nat → Int32) (la_ridgeHeights : Nat → Int32) (la_way : Nat → Int32) (la_blurs : Nat → Int32) (la_steps : Nat → Int32) (la_places : Int32) (la_ridges : Int32) (la_wayBlur : Int32) (la_wayLength : Int32) (bk_times : Nat → Int32) (bk_froms : Nat → Int32) (bk_asks : Nat → Int32) (bk_words : Nat → Int32) (bk_firsts : Nat → Int32) (bk_lies : Nat → Int32) (bk_held : Nat → Int32) (bk_size : Int32) (nu_learned : Nat → Int32) (nu_size : Int32) (to_letterMarks : Nat → Int32) (to_names : Nat → Int64) (to_spelled : Nat → Int32) (to_rows : Nat → Int64) (to_alike : Nat → Int32) (to_near : Nat → Int32) (to_asks : Nat → Int32) (to_letters : Int32) (to_words : Int32) (to_askCount : Int32) (x1 : Int32) (r0 : Int32)  : ∀ (k : Nat) (x2 : Int32) (x3 : Int32) (H : Heap) (locs : List Loc) (ls : Array Slot), fX2_learnedPairs_p4 n nu_learned x1 k x2 x3 = some r0 → va_P (dC, dI) vwCl (wX cB cI cJ cZ a (a 35) (a 4) ww_latestFault tp_bytes tp_size rd_fault rd_faultPlace rd_kind rd_start rd_at rd_number dr_letterMarks dr_names dr_spelled dr_rows dr_alike dr_near dr_asks dr_letters dr_words dr_askCount sh_lanes sh_sizes sh_cells la_xs la_ys la_heights la_ridgeXs la_ridgeHeights la_way la_blurs la_steps la_places la_ridges la_wayBlur la_wayLength bk_times bk_froms bk_asks bk_words bk_firsts bk_lies bk_held bk_size nu_learned nu_size to_letterMarks to_names to_spelled to_rows to_alike to_near to_asks to_letters to_words to_askCount) H → va_D A (wX cB cI cJ cZ a (a 35) (a 4) ww_latestFault tp_bytes tp_size rd_fault rd_faultPlace rd_kind rd_start rd_at rd_number dr_letterMarks dr_names dr_spelled dr_rows dr_alike dr_near dr_asks dr_letters dr_words dr_askCount sh_lanes sh_sizes sh_cells la_xs la_ys la_heights la_ridgeXs la_ridgeHeights la_way la_blurs la_steps la_places la_ridges la_wayBlur la_wayLength bk_times bk_froms bk_asks bk_words bk_firsts bk_lies bk_held bk_size nu_learned nu_size to_letterMarks to_names to_spelled to_rows to_alike to_near to_asks to_letters to_words to_askCount) → va_S A s.heap H locs → lv_has ls 4 [(0, .ref (a 33)), (1, .int x1), (2, .int x2), (3, .int x3)] → W p l e { frames := 1, cells := 0, slots := 0, locals := 20 } s m args below meth c H locs 0 0 (MQ below (gI (dC, dI) (tyz cB cI cJ cZ) (wX cB cI cJ cZ a (a 35) (a 4) ww_latestFault tp_bytes tp_size rd_fault rd_faultPlace rd_kind rd_start rd_at rd_number dr_letterMarks dr_names dr_spelled dr_rows dr_alike dr_near dr_asks dr_letters dr_words dr_askCount sh_lanes sh_sizes sh_cells la_xs la_ys la_heights la_ridgeXs la_ridgeHeights la_way la_blurs la_steps la_places la_ridges la_wayBlur la_wayLength bk_times bk_froms bk_asks bk_words bk_firsts bk_lies bk_held bk_size nu_learned nu_size to_letterMarks to_names to_spelled to_rows to_alike to_near to_asks to_letters to_words to_askCount) A r0) args s 0 0 A) (F0 m 4 ls []) := by
  obtain ⟨hx, hb, hr, hml, hown, hts, hlocks, hK, hA, hE⟩ := id C0
  have hw0 := hts (.fieldLink RX2 9 "WhistledWords$Nursery" "learned" "[I") (by decide +kernel)
  have hnX2 : ∀ w ∈ u_ws RX2 TX2 2, w ∈ wsX2_learnedPairs := fun _ h => List.mem_cons_of_mem _ (List.mem_append_right _ h)
  intro k
  induction k with
  | zero =>
    intro x2 x3 H locs ls h
    cases h
  | succ k ih =>
    intro x2 x3 H locs ls h hP hD hS hl
    rw [fX2_learnedPairs_p4] at h
    refine lv_iload_n hx hb dX2_learnedPairs_4 rfl (lv_at hl 3 rfl) ?_
    refine lv_bipush (v := 16) hx hb dX2_learnedPairs_5 (by decide) ?_
    refine lv_icmp_ge (tgt := 33) hx hb dX2_learnedPairs_7 (by decide) (fun c1 => ?_) (fun c1 => ?_)
    · have h := it_use c1 h
      refine lv_iload_n hx hb dX2_learnedPairs_33 rfl (lv_at hl 2 rfl) ?_
      refine lv_iconst (v := 2) hx hb dX2_learnedPairs_34 (by decide) ?_
      refine lv_idiv hx hb dX2_learnedPairs_35 (by decide) ?_
      obtain er := rt1_use h
      exact re_i hx hb hr hlocks hK hP hD hS er dX2_learnedPairs_36
    · have h := ie_use c1 h
      refine lv_iload_n hx hb dX2_learnedPairs_10 rfl (lv_at hl 2 rfl) ?_
      refine lv_aload_n hx hb dX2_learnedPairs_11 rfl (lv_at hl 0 rfl) ?_
      refine gX_nursery_learned hx hb hts hnX2 hown hK hP hw0 dX2_learnedPairs_12 ?_
      refine lv_iload_n hx hb dX2_learnedPairs_15 rfl (lv_at hl 1 rfl) ?_
      refine lv_bipush (v := 16) hx hb dX2_learnedPairs_16 (by decide) ?_
      refine lv_imul hx hb dX2_learnedPairs_18 ?_
      refine lv_iload_n hx hb dX2_learnedPairs_19 rfl (lv_at hl 3 rfl) ?_
      refine lv_iadd hx hb dX2_learnedPairs_20 ?_
      obtain ⟨hiv2, h⟩ := ar_use h
      refine lX_nursery_learned hx hb hK hP hiv2 dX2_learnedPairs_21 ?_
      refine lv_topi (fun v2 ev2 => ?_)
      have h := h v2 ev2
      obtain ⟨v3, hc, h⟩ := bd1_use h
      refine cs_i (As := [.int v2]) (rest := [.int x2]) ⟨hx, hb, hml, hown, hts⟩ (kJ6_bitCount_0f7a4 l n v2 v3 hc) (va_cwS 1 hts gX2_learnedPairs_J6_bitCount_0f7a4 rfl rfl rfl (by decide +kernel) ⟨Nat.le_of_ble_eq_true rfl, Nat.le_of_ble_eq_true rfl⟩) hP hS rfl hl.1 rfl (Nat.le_of_ble_eq_true rfl) dX2_learnedPairs_22 ⟨Nat.zero_le _, Nat.zero_le _⟩ (fun H locs hP hS => ?_)
      refine lv_iadd hx hb dX2_learnedPairs_25 ?_
      refine lv_topi (fun v4 ev4 => ?_)
      have h := nm_use ev4 h
      refine lv_istore_n (lv' := [(2, .int v4), (0, .ref (a 33)), (1, .int x1), (3, .int x3)]) hx hb dX2_learnedPairs_26 rfl hl (by decide) rfl (fun ls hl => ?_)
      refine lv_iinc (v := x3 + 1) (lv' := [(3, .int (x3 + 1)), (2, .int v4), (0, .ref (a 33)), (1, .int x1)]) hx hb dX2_learnedPairs_27 hl (k := 3) rfl rfl (by decide) rfl (fun ls hl => ?_)
      refine lv_goto (tgt := 4) hx hb dX2_learnedPairs_30 (by decide) ?_
      exact ih v4 (x3 + 1) _ _ ls h hP hD hS (lv_sub hl [2, 3, 1, 0] rfl)
theorem kX2_learnedPairs_p4 {p : Program} {l : Launch} {e : Env} {s : State} {m : MethodId} {args : Array Value} {below : List Frame} {meth : Method} {c : Code} {A : Nat → Prop} (dC : Nat → ClassId) (dI : Nat → Nat → Nat) (cB cI cJ cZ : ClassId) (a : Nat → Nat) (adK adV : Nat → Nat) (C0 : cxt cX2_learnedPairs (some .int) 4 RX2 wsX2_learnedPairs (dC, dI) (tyz cB cI cJ cZ) (E_X adK adV) A p s m args meth c) (n : Nat) (ww_latestFault : Int32) (tp_bytes : Nat → Int32) (tp_size : Int32) (rd_fault : Int32) (rd_faultPlace : Int32) (rd_kind : Int32) (rd_start : Int32) (rd_at : Int32) (rd_number : Int32) (dr_letterMarks : Nat → Int32) (dr_names : Nat → Int64) (dr_spelled : Nat → Int32) (dr_rows : Nat → Int64) (dr_alike : Nat → Int32) (dr_near : Nat → Int32) (dr_asks : Nat → Int32) (dr_letters : Int32) (dr_words : Int32) (dr_askCount : Int32) (sh_lanes : Nat → Int32) (sh_sizes : Nat → Int32) (sh_cells : Nat → Int32) (la_xs : Nat → Int32) (la_ys : Nat → Int32) (la_heights : Nat → Int32) (la_ridgeXs : Nat → Int32) (la_ridgeHeights : Nat → Int32) (la_way : Nat → Int32) (la_blurs : Nat → Int32) (la_steps : Nat → Int32) (la_places : Int32) (la_ridges : Int32) (la_wayBlur : Int32) (la_wayLength : Int32) (bk_times : Nat → Int32) (bk_froms : Nat → Int32) (bk_asks : Nat → Int32) (bk_words : Nat → Int32) (bk_firsts : Nat → Int32) (bk_lies : Nat → Int32) (bk_held : Nat → Int32) (bk_size : Int32) (nu_learned : Nat → Int32) (nu_size : Int32) (to_letterMarks : Nat → Int32) (to_names : Nat → Int64) (to_spelled : Nat → Int32) (to_rows : Nat → Int64) (to_alike : Nat → Int32) (to_near : Nat → Int32) (to_asks : Nat → Int32) (to_letters : Int32) (to_words : Int32) (to_askCount : Int32)  (x1 : Int32) (x2 : Int32) (x3 : Int32) (r0 : Int32)  (k : Nat) (H : Heap) (locs : List Loc) (ls : Array Slot) : fX2_learnedPairs_p4 n nu_learned x1 k x2 x3 = some r0 → va_P (dC, dI) vwCl (wX cB cI cJ cZ a (a 35) (a 4) ww_latestFault tp_bytes tp_size rd_fault rd_faultPlace rd_kind rd_start rd_at rd_number dr_letterMarks dr_names dr_spelled dr_rows dr_alike dr_near dr_asks dr_letters dr_words dr_askCount sh_lanes sh_sizes sh_cells la_xs la_ys la_heights la_ridgeXs la_ridgeHeights la_way la_blurs la_steps la_places la_ridges la_wayBlur la_wayLength bk_times bk_froms bk_asks bk_words bk_firsts bk_lies bk_held bk_size nu_learned nu_size to_letterMarks to_names to_spelled to_rows to_alike to_near to_asks to_letters to_words to_askCount) H → va_D A (wX cB cI cJ cZ a (a 35) (a 4) ww_latestFault tp_bytes tp_size rd_fault rd_faultPlace rd_kind rd_start rd_at rd_number dr_letterMarks dr_names dr_spelled dr_rows dr_alike dr_near dr_asks dr_letters dr_words dr_askCount sh_lanes sh_sizes sh_cells la_xs la_ys la_heights la_ridgeXs la_ridgeHeights la_way la_blurs la_steps la_places la_ridges la_wayBlur la_wayLength bk_times bk_froms bk_asks bk_words bk_firsts bk_lies bk_held bk_size nu_learned nu_size to_letterMarks to_names to_spelled to_rows to_alike to_near to_asks to_letters to_words to_askCount) → va_S A s.heap H locs → lv_has ls 4 [(0, .ref (a 33)), (1, .int x1), (2, .int x2), (3, .int x3)] → W p l e { frames := 1, cells := 0, slots := 0, locals := 20 } s m args below meth c H locs 0 0 (MQ below (gI (dC, dI) (tyz cB cI cJ cZ) (wX cB cI cJ cZ a (a 35) (a 4) ww_latestFault tp_bytes tp_size rd_fault rd_faultPlace rd_kind rd_start rd_at rd_number dr_letterMarks dr_names dr_spelled dr_rows dr_alike dr_near dr_asks dr_letters dr_words dr_askCount sh_lanes sh_sizes sh_cells la_xs la_ys la_heights la_ridgeXs la_ridgeHeights la_way la_blurs la_steps la_places la_ridges la_wayBlur la_wayLength bk_times bk_froms bk_asks bk_words bk_firsts bk_lies bk_held bk_size nu_learned nu_size to_letterMarks to_names to_spelled to_rows to_alike to_near to_asks to_letters to_words to_askCount) A r0) args s 0 0 A) (F0 m 4 ls []) :=
  kX2_learnedPairs_p4_r dC dI cB cI cJ cZ a adK adV C0 n ww_latestFault tp_bytes tp_size rd_fault rd_faultPlace rd_kind rd_start rd_at rd_number dr_letterMarks dr_names dr_spelled dr_rows dr_alike dr_near dr_asks dr_letters dr_words dr_askCount sh_lanes sh_sizes sh_cells la_xs la_ys la_heights la_ridgeXs la_ridgeHeights la_way la_blurs la_steps la_places la_ridges la_wayBlur la_wayLength bk_times bk_froms bk_asks bk_words bk_firsts bk_lies bk_held bk_size nu_learned nu_size to_letterMarks to_names to_spelled to_rows to_alike to_near to_asks to_letters to_words to_askCount x1 r0  k x2 x3 H locs ls
set_option maxHeartbeats 4000000 in
set_option maxRecDepth 100000 in
theorem kX2_learnedPairs (l : Launch) (n : Nat) (dC : Nat → ClassId) (dI : Nat → Nat → Nat) (cB cI cJ cZ : ClassId) (a : Nat → Nat) (adK adV : Nat → Nat) (sz : Nat) (ww_latestFault : Int32) (tp_bytes : Nat → Int32) (tp_size : Int32) (rd_fault : Int32) (rd_faultPlace : Int32) (rd_kind : Int32) (rd_start : Int32) (rd_at : Int32) (rd_number : Int32) (dr_letterMarks : Nat → Int32) (dr_names : Nat → Int64) (dr_spelled : Nat → Int32) (dr_rows : Nat → Int64) (dr_alike : Nat → Int32) (dr_near : Nat → Int32) (dr_asks : Nat → Int32) (dr_letters : Int32) (dr_words : Int32) (dr_askCount : Int32) (sh_lanes : Nat → Int32) (sh_sizes : Nat → Int32) (sh_cells : Nat → Int32) (la_xs : Nat → Int32) (la_ys : Nat → Int32) (la_heights : Nat → Int32) (la_ridgeXs : Nat → Int32) (la_ridgeHeights : Nat → Int32) (la_way : Nat → Int32) (la_blurs : Nat → Int32) (la_steps : Nat → Int32) (la_places : Int32) (la_ridges : Int32) (la_wayBlur : Int32) (la_wayLength : Int32) (bk_times : Nat → Int32) (bk_froms : Nat → Int32) (bk_asks : Nat → Int32) (bk_words : Nat → Int32) (bk_firsts : Nat → Int32) (bk_lies : Nat → Int32) (bk_held : Nat → Int32) (bk_size : Int32) (nu_learned : Nat → Int32) (nu_size : Int32) (to_letterMarks : Nat → Int32) (to_names : Nat → Int64) (to_spelled : Nat → Int32) (to_rows : Nat → Int64) (to_alike : Nat → Int32) (to_near : Nat → Int32) (to_asks : Nat → Int32) (to_letters : Int32) (to_words : Int32) (to_askCount : Int32) (x1 : Int32) (r0 : Int32) (h : fX2_learnedPairs n nu_learned x1 = some r0) : Met l yX2_learnedPairs wsX2_learnedPairs ({ frames := 1, cells := 0, slots := 0, locals := 20 }) (gP (dC, dI) (tyz cB cI cJ cZ) (E_X adK adV) (wX cB cI cJ cZ a (a 35) (a 4) ww_latestFault tp_bytes tp_size rd_fault rd_faultPlace rd_kind rd_start rd_at rd_number dr_letterMarks dr_names dr_spelled dr_rows dr_alike dr_near dr_asks dr_letters dr_words dr_askCount sh_lanes sh_sizes sh_cells la_xs la_ys la_heights la_ridgeXs la_ridgeHeights la_way la_blurs la_steps la_places la_ridges la_wayBlur la_wayLength bk_times bk_froms bk_asks bk_words bk_firsts bk_lies bk_held bk_size nu_learned nu_size to_letterMarks to_names to_spelled to_rows to_alike to_near to_asks to_letters to_words to_askCount) sz [.ref (a 33), .int x1]) (gI (dC, dI) (tyz cB cI cJ cZ) (wX cB cI cJ cZ a (a 35) (a 4) ww_latestFault tp_bytes tp_size rd_fault rd_faultPlace rd_kind rd_start rd_at rd_number dr_letterMarks dr_names dr_spelled dr_rows dr_alike dr_near dr_asks dr_letters dr_words dr_askCount sh_lanes sh_sizes sh_cells la_xs la_ys la_heights la_ridgeXs la_ridgeHeights la_way la_blurs la_steps la_places la_ridges la_wayBlur la_wayLength bk_times bk_froms bk_asks bk_words bk_firsts bk_lies bk_held bk_size nu_learned nu_size to_letterMarks to_names to_spelled to_rows to_alike to_near to_asks to_letters to_words to_askCount) (va_A (wX cB cI cJ cZ a (a 35) (a 4) ww_latestFault tp_bytes tp_size rd_fault rd_faultPlace rd_kind rd_start rd_at rd_number dr_letterMarks dr_names dr_spelled dr_rows dr_alike dr_near dr_asks dr_letters dr_words dr_askCount sh_lanes sh_sizes sh_cells la_xs la_ys la_heights la_ridgeXs la_ridgeHeights la_way la_blurs la_steps la_places la_ridges la_wayBlur la_wayLength bk_times bk_froms bk_asks bk_words bk_firsts bk_lies bk_held bk_size nu_learned nu_size to_letterMarks to_names to_spelled to_rows to_alike to_near to_asks to_letters to_words to_askCount) sz) r0) 0 0 (va_A (wX cB cI cJ cZ a (a 35) (a 4) ww_latestFault tp_bytes tp_size rd_fault rd_faultPlace rd_kind rd_start rd_at rd_number dr_letterMarks dr_names dr_spelled dr_rows dr_alike dr_near dr_asks dr_letters dr_words dr_askCount sh_lanes sh_sizes sh_cells la_xs la_ys la_heights la_ridgeXs la_ridgeHeights la_way la_blurs la_steps la_places la_ridges la_wayBlur la_wayLength bk_times bk_froms bk_asks bk_words bk_firsts bk_lies bk_held bk_size nu_learned nu_size to_letterMarks to_names to_spelled to_rows to_alike to_near to_asks to_letters to_words to_askCount) sz) := by
  refine Met.ofW (cc := cX2_learnedPairs) (maxL := 4) (ret := (some .int)) (by decide) rfl ?_
  intro p e s m args below meth c s₁ B hml hv
  obtain ⟨rfl, hsz, hP, hK, hD0, hE⟩ := hv
  have hx := B.exec
  have hb := B.bytes
  have hr := B.returns
  have hts := atoms_spec (ws := wsX2_learnedPairs) B.pre
  have hown : s.vm.findClass RX2 = some m.cls := findClass_of_methodNamed B.named
  have hlocks := B.notSynchronized
  subst hsz
  have hD := hD0.self (sz := s.heap.size)
  have hA : ∀ q : Nat, s.heap.size ≤ q → va_A (wX cB cI cJ cZ a (a 35) (a 4) ww_latestFault tp_bytes tp_size rd_fault rd_faultPlace rd_kind rd_start rd_at rd_number dr_letterMarks dr_names dr_spelled dr_rows dr_alike dr_near dr_asks dr_letters dr_words dr_askCount sh_lanes sh_sizes sh_cells la_xs la_ys la_heights la_ridgeXs la_ridgeHeights la_way la_blurs la_steps la_places la_ridges la_wayBlur la_wayLength bk_times bk_froms bk_asks bk_words bk_firsts bk_lies bk_held bk_size nu_learned nu_size to_letterMarks to_names to_spelled to_rows to_alike to_near to_asks to_letters to_words to_askCount) s.heap.size q := fun q h => Or.inr h
  generalize va_A (wX cB cI cJ cZ a (a 35) (a 4) ww_latestFault tp_bytes tp_size rd_fault rd_faultPlace rd_kind rd_start rd_at rd_number dr_letterMarks dr_names dr_spelled dr_rows dr_alike dr_near dr_asks dr_letters dr_words dr_askCount sh_lanes sh_sizes sh_cells la_xs la_ys la_heights la_ridgeXs la_ridgeHeights la_way la_blurs la_steps la_places la_ridges la_wayBlur la_wayLength bk_times bk_froms bk_asks bk_words bk_firsts bk_lies bk_held bk_size nu_learned nu_size to_letterMarks to_names to_spelled to_rows to_alike to_near to_asks to_letters to_words to_askCount) s.heap.size = A at hD hA hE ⊢
  have hS : va_S A s.heap s.heap [] := va_S.rf
  have C0 : cxt cX2_learnedPairs (some .int) 4 RX2 wsX2_learnedPairs (dC, dI) (tyz cB cI cJ cZ) (E_X adK adV) A p s m ([.ref (a 33), .int x1] : List Value).toArray meth c := ⟨hx, hb, hr, hml, hown, hts, hlocks, hK, hA, hE⟩
  have hl := lv_entry ([.ref (a 33), .int x1]) (n := 4) (Nat.le_of_ble_eq_true rfl)
  rw [lg_entry_eq]
  generalize (lg_sl ([.ref (a 33), .int x1]) ++ List.replicate (4 - (lg_sl ([.ref (a 33), .int x1])).length) Slot.unset).toArray = ls at hl ⊢
  have hl : lv_has ls 4 [(0, .ref (a 33)), (1, .int x1)] := hl
  unfold fX2_learnedPairs at h
  refine lv_iconst (v := 0) hx hb dX2_learnedPairs_0 (by decide) ?_
  refine lv_istore_n (lv' := [(2, .int (0 : Int32)), (0, .ref (a 33)), (1, .int x1)]) hx hb dX2_learnedPairs_1 rfl hl (by decide) rfl (fun ls hl => ?_)
  refine lv_iconst (v := 0) hx hb dX2_learnedPairs_2 (by decide) ?_
  refine lv_istore_n (lv' := [(3, .int (0 : Int32)), (2, .int (0 : Int32)), (0, .ref (a 33)), (1, .int x1)]) hx hb dX2_learnedPairs_3 rfl hl (by decide) rfl (fun ls hl => ?_)
  exact kX2_learnedPairs_p4 dC dI cB cI cJ cZ a adK adV C0 n ww_latestFault tp_bytes tp_size rd_fault rd_faultPlace rd_kind rd_start rd_at rd_number dr_letterMarks dr_names dr_spelled dr_rows dr_alike dr_near dr_asks dr_letters dr_words dr_askCount sh_lanes sh_sizes sh_cells la_xs la_ys la_heights la_ridgeXs la_ridgeHeights la_way la_blurs la_steps la_places la_ridges la_wayBlur la_wayLength bk_times bk_froms bk_asks bk_words bk_firsts bk_lies bk_held bk_size nu_learned nu_size to_letterMarks to_names to_spelled to_rows to_alike to_near to_asks to_letters to_words to_askCount x1 (0 : Int32) (0 : Int32) r0  n _ _ ls h hP hD hS (lv_sub hl [2, 3, 1, 0] rfl)
set_option maxHeartbeats 4000000 in
set_option maxRecDepth 100000 in
theorem kX2_confusedWith (l : Launch) (n : Nat) (dC : Nat → ClassId) (dI : Nat → Nat → Nat) (cB cI cJ cZ : ClassId) (a : Nat → Nat) (adK adV : Nat → Nat) (sz : Nat) (ww_latestFault : Int32) (tp_bytes : Nat → Int32) (tp_size : Int32) (rd_fault : Int32) (rd_faultPlace : Int32) (rd_kind : Int32) (rd_start : Int32) (rd_at : Int32) (rd_number : Int32) (dr_letterMarks : Nat → Int32) (dr_names : Nat → Int64) (dr_spelled : Nat → Int32) (dr_rows : Nat → Int64) (dr_alike : Nat → Int32) (dr_near : Nat → Int32) (dr_asks : Nat → Int32) (dr_letters : Int32) (dr_words : Int32) (dr_askCount : Int32) (sh_lanes : Nat → Int32) (sh_sizes : Nat → Int32) (sh_cells : Nat → Int32) (la_xs : Nat → Int32) (la_ys : Nat → Int32) (la_heights : Nat → Int32) (la_ridgeXs : Nat → Int32) (la_ridgeHeights : Nat → Int32) (la_way : Nat → Int32) (la_blurs : Nat → Int32) (la_steps : Nat → Int32) (la_places : Int32) (la_ridges : Int32) (la_wayBlur : Int32) (la_wayLength : Int32) (bk_times : Nat → Int32) (bk_froms : Nat → Int32) (bk_asks : Nat → Int32) (bk_words : Nat → Int32) (bk_firsts : Nat → Int32) (bk_lies : Nat → Int32) (bk_held : Nat → Int32) (bk_size : Int32) (nu_learned : Nat → Int32) (nu_size : Int32) (to_letterMarks : Nat → Int32) (to_names : Nat → Int64) (to_spelled : Nat → Int32) (to_rows : Nat → Int64) (to_alike : Nat → Int32) (to_near : Nat → Int32) (to_asks : Nat → Int32) (to_letters : Int32) (to_words : Int32) (to_askCount : Int32) (x1 : Int32) (x2 : Int32) (r0 : Int32) (h : fX2_confusedWith n nu_learned to_near x1 x2 = some r0) : Met l yX2_confusedWith wsX2_confusedWith ({ frames := 0, cells := 0, slots := 0, locals := 0 }) (gP (dC, dI) (tyz cB cI cJ cZ) (E_X adK adV) (wX cB cI cJ cZ a (a 35) (a 4) ww_latestFault tp_bytes tp_size rd_fault rd_faultPlace rd_kind rd_start rd_at rd_number dr_letterMarks dr_names dr_spelled dr_rows dr_alike dr_near dr_asks dr_letters dr_words dr_askCount sh_lanes sh_sizes sh_cells la_xs la_ys la_heights la_ridgeXs la_ridgeHeights la_way la_blurs la_steps la_places la_ridges la_wayBlur la_wayLength bk_times bk_froms bk_asks bk_words bk_firsts bk_lies bk_held bk_size nu_learned nu_size to_letterMarks to_names to_spelled to_rows to_alike to_near to_asks to_letters to_words to_askCount) sz [.ref (a 33), .int x1, .int x2, .ref (a 35)]) (gI (dC, dI) (tyz cB cI cJ cZ) (wX cB cI cJ cZ a (a 35) (a 4) ww_latestFault tp_bytes tp_size rd_fault rd_faultPlace rd_kind rd_start rd_at rd_number dr_letterMarks dr_names dr_spelled dr_rows dr_alike dr_near dr_asks dr_letters dr_words dr_askCount sh_lanes sh_sizes sh_cells la_xs la_ys la_heights la_ridgeXs la_ridgeHeights la_way la_blurs la_steps la_places la_ridges la_wayBlur la_wayLength bk_times bk_froms bk_asks bk_words bk_firsts bk_lies bk_held bk_size nu_learned nu_size to_letterMarks to_names to_spelled to_rows to_alike to_near to_asks to_letters to_words to_askCount) (va_A (wX cB cI cJ cZ a (a 35) (a 4) ww_latestFault tp_bytes tp_size rd_fault rd_faultPlace rd_kind rd_start rd_at rd_number dr_letterMarks dr_names dr_spelled dr_rows dr_alike dr_near dr_asks dr_letters dr_words dr_askCount sh_lanes sh_sizes sh_cells la_xs la_ys la_heights la_ridgeXs la_ridgeHeights la_way la_blurs la_steps la_places la_ridges la_wayBlur la_wayLength bk_times bk_froms bk_asks bk_words bk_firsts bk_lies bk_held bk_size nu_learned nu_size to_letterMarks to_names to_spelled to_rows to_alike to_near to_asks to_letters to_words to_askCount) sz) r0) 0 0 (va_A (wX cB cI cJ cZ a (a 35) (a 4) ww_latestFault tp_bytes tp_size rd_fault rd_faultPlace rd_kind rd_start rd_at rd_number dr_letterMarks dr_names dr_spelled dr_rows dr_alike dr_near dr_asks dr_letters dr_words dr_askCount sh_lanes sh_sizes sh_cells la_xs la_ys la_heights la_ridgeXs la_ridgeHeights la_way la_blurs la_steps la_places la_ridges la_wayBlur la_wayLength bk_times bk_froms bk_asks bk_words bk_firsts bk_lies bk_held bk_size nu_learned nu_size to_letterMarks to_names to_spelled to_rows to_alike to_near to_asks to_letters to_words to_askCount) sz) := by
  refine Met.ofW (cc := cX2_confusedWith) (maxL := 4) (ret := (some .int)) (by decide) rfl ?_
  intro p e s m args below meth c s₁ B hml hv
  obtain ⟨rfl, hsz, hP, hK, hD0, hE⟩ := hv
  have hx := B.exec
  have hb := B.bytes
  have hr := B.returns
  have hts := atoms_spec (ws := wsX2_confusedWith) B.pre
  have hown : s.vm.findClass RX2 = some m.cls := findClass_of_methodNamed B.named
  have hlocks := B.notSynchronized
  subst hsz
  have hD := hD0.self (sz := s.heap.size)
  have hA : ∀ q : Nat, s.heap.size ≤ q → va_A (wX cB cI cJ cZ a (a 35) (a 4) ww_latestFault tp_bytes tp_size rd_fault rd_faultPlace rd_kind rd_start rd_at rd_number dr_letterMarks dr_names dr_spelled dr_rows dr_alike dr_near dr_asks dr_letters dr_words dr_askCount sh_lanes sh_sizes sh_cells la_xs la_ys la_heights la_ridgeXs la_ridgeHeights la_way la_blurs la_steps la_places la_ridges la_wayBlur la_wayLength bk_times bk_froms bk_asks bk_words bk_firsts bk_lies bk_held bk_size nu_learned nu_size to_letterMarks to_names to_spelled to_rows to_alike to_near to_asks to_letters to_words to_askCount) s.heap.size q := fun q h => Or.inr h
  generalize va_A (wX cB cI cJ cZ a (a 35) (a 4) ww_latestFault tp_bytes tp_size rd_fault rd_faultPlace rd_kind rd_start rd_at rd_number dr_letterMarks dr_names dr_spelled dr_rows dr_alike dr_near dr_asks dr_letters dr_words dr_askCount sh_lanes sh_sizes sh_cells la_xs la_ys la_heights la_ridgeXs la_ridgeHeights la_way la_blurs la_steps la_places la_ridges la_wayBlur la_wayLength bk_times bk_froms bk_asks bk_words bk_firsts bk_lies bk_held bk_size nu_learned nu_size to_letterMarks to_names to_spelled to_rows to_alike to_near to_asks to_letters to_words to_askCount) s.heap.size = A at hD hA hE ⊢
  have hS : va_S A s.heap s.heap [] := va_S.rf
  have C0 : cxt cX2_confusedWith (some .int) 4 RX2 wsX2_confusedWith (dC, dI) (tyz cB cI cJ cZ) (E_X adK adV) A p s m ([.ref (a 33), .int x1, .int x2, .ref (a 35)] : List Value).toArray meth c := ⟨hx, hb, hr, hml, hown, hts, hlocks, hK, hA, hE⟩
  have hl := lv_entry ([.ref (a 33), .int x1, .int x2, .ref (a 35)]) (n := 4) (Nat.le_of_ble_eq_true rfl)
  rw [lg_entry_eq]
  generalize (lg_sl ([.ref (a 33), .int x1, .int x2, .ref (a 35)]) ++ List.replicate (4 - (lg_sl ([.ref (a 33), .int x1, .int x2, .ref (a 35)])).length) Slot.unset).toArray = ls at hl ⊢
  have hl : lv_has ls 4 [(0, .ref (a 33)), (1, .int x1), (2, .int x2), (3, .ref (a 35))] := hl
  have hw0 := hts (.fieldLink RX2 29 "WhistledWords$Tongue" "near" "[I") (by decide +kernel)
  have hw1 := hts (.fieldLink RX2 9 "WhistledWords$Nursery" "learned" "[I") (by decide +kernel)
  have hnX7 : ∀ w ∈ u_ws RX7 TX7 10, w ∈ wsX2_confusedWith := fun _ h => List.mem_cons_of_mem _ (List.mem_append_left _ (List.mem_append_right _ h))
  have hnX2 : ∀ w ∈ u_ws RX2 TX2 2, w ∈ wsX2_confusedWith := fun _ h => List.mem_cons_of_mem _ (List.mem_append_right _ h)
  unfold fX2_confusedWith at h
  refine lv_aload_n hx hb dX2_confusedWith_0 rfl (lv_at hl 3 rfl) ?_
  refine gX_told_near hx hb hts hnX7 hown hK hP hw0 dX2_confusedWith_1 ?_
  refine lv_iload_n hx hb dX2_confusedWith_4 rfl (lv_at hl 2 rfl) ?_
  obtain ⟨hiv1, h⟩ := ar_use h
  refine lX_told_near hx hb hK hP hiv1 dX2_confusedWith_5 ?_
  refine lv_topi (fun v1 ev1 => ?_)
  have h := h v1 ev1
  refine lv_aload_n hx hb dX2_confusedWith_6 rfl (lv_at hl 0 rfl) ?_
  refine gX_nursery_learned hx hb hts hnX2 hown hK hP hw1 dX2_confusedWith_7 ?_
  refine lv_iload_n hx hb dX2_confusedWith_10 rfl (lv_at hl 1 rfl) ?_
  refine lv_bipush (v := 16) hx hb dX2_confusedWith_11 (by decide) ?_
  refine lv_imul hx hb dX2_confusedWith_13 ?_
  refine lv_iload_n hx hb dX2_confusedWith_14 rfl (lv_at hl 2 rfl) ?_
  refine lv_iadd hx hb dX2_confusedWith_15 ?_
  obtain ⟨hiv2, h⟩ := ar_use h
  refine lX_nursery_learned hx hb hK hP hiv2 dX2_confusedWith_16 ?_
  refine lv_topi (fun v2 ev2 => ?_)
  have h := h v2 ev2
  refine lv_iconst (v := -1) hx hb dX2_confusedWith_17 (by decide) ?_
  refine lv_ixor hx hb dX2_confusedWith_18 ?_
  refine lv_iand hx hb dX2_confusedWith_19 ?_
  obtain er := rt1_use h
  exact re_i hx hb hr hlocks hK hP hD hS er dX2_confusedWith_20
set_option maxHeartbeats 4000000 in
set_option maxRecDepth 100000 in
theorem kX2_confusedPairs_p6_r {p : Program} {l : Launch} {e : Env} {s : State} {m : MethodId} {args : Array Value} {below : List Frame} {meth : Method} {c : Code} {A : Nat → Prop} (dC : Nat → ClassId) (dI : Nat → Nat → Nat) (cB cI cJ cZ : ClassId) (a : Nat → Nat) (adK adV : Nat → Nat) (C0 : cxt cX2_confusedPairs (some .int) 6 RX2 wsX2_confusedPairs (dC, dI) (tyz cB cI cJ cZ) (E_X adK adV) A p s m args meth c) (n : Nat) (ww_latestFault : Int32) (tp_bytes : Nat → Int32) (tp_size : Int32) (rd_fault : Int32) (rd_faultPlace : Int32) (rd_kind : Int32) (rd_start : Int32) (rd_at : Int32) (rd_number : Int32) (dr_letterMarks : Nat → Int32) (dr_names : Nat → Int64) (dr_spelled : Nat → Int32) (dr_rows : Nat → Int64) (dr_alike : Nat → Int32) (dr_near : Nat → Int32) (dr_asks : Nat → Int32) (dr_letters : Int32) (dr_words : Int32) (dr_askCount : Int32) (sh_lanes : Nat → Int32) (sh_sizes : Nat → Int32) (sh_cells : Nat → Int32) (la_xs : Nat → Int32) (la_ys : Nat → Int32) (la_heights : Nat → Int32) (la_ridgeXs : Nat → Int32) (la_ridgeHeights : Nat → Int32) (la_way : Nat → Int32) (la_blurs : Nat → Int32) (la_steps : Nat → Int32) (la_places : Int32) (la_ridges : Int32) (la_wayBlur : Int32) (la_wayLength : Int32) (bk_times : Nat → Int32) (bk_froms : Nat → Int32) (bk_asks : Nat → Int32) (bk_words : Nat → Int32) (bk_firsts : Nat → Int32) (bk_lies : Nat → Int32) (bk_held : Nat → Int32) (bk_size : Int32) (nu_learned : Nat → Int32) (nu_size : Int32) (to_letterMarks : Nat → Int32) (to_names : Nat → Int64) (to_spelled : Nat → Int32) (to_rows : Nat → Int64) (to_alike : Nat → Int32) (to_near : Nat → Int32) (to_asks : Nat → Int32) (to_letters : Int32) (to_words : Int32) (to_askCount : Int32) (x1 : Int32) (x2 : Int32) (r0 : Int32)  : ∀ (k : Nat) (x4 : Int32) (x5 : Int32) (H : Heap) (locs : List Loc) (ls : Array Slot), fX2_confusedPairs_p6 n nu_learned to_near to_words x1 x2 k x4 x5 = some r0 → va_P (dC, dI) vwCl (wX cB cI cJ cZ a (a 35) (a 4) ww_latestFault tp_bytes tp_size rd_fault rd_faultPlace rd_kind rd_start rd_at rd_number dr_letterMarks dr_names dr_spelled dr_rows dr_alike dr_near dr_asks dr_letters dr_words dr_askCount sh_lanes sh_sizes sh_cells la_xs la_ys la_heights la_ridgeXs la_ridgeHeights la_way la_blurs la_steps la_places la_ridges la_wayBlur la_wayLength bk_times bk_froms bk_asks bk_words bk_firsts bk_lies bk_held bk_size nu_learned nu_size to_letterMarks to_names to_spelled to_rows to_alike to_near to_asks to_letters to_words to_askCount) H → va_D A (wX cB cI cJ cZ a (a 35) (a 4) ww_latestFault tp_bytes tp_size rd_fault rd_faultPlace rd_kind rd_start rd_at rd_number dr_letterMarks dr_names dr_spelled dr_rows dr_alike dr_near dr_asks dr_letters dr_words dr_askCount sh_lanes sh_sizes sh_cells la_xs la_ys la_heights la_ridgeXs la_ridgeHeights la_way la_blurs la_steps la_places la_ridges la_wayBlur la_wayLength bk_times bk_froms bk_asks bk_words bk_firsts bk_lies bk_held bk_size nu_learned nu_size to_letterMarks to_names to_spelled to_rows to_alike to_near to_asks to_letters to_words to_askCount) → va_S A s.heap H locs → lv_has ls 6 [(0, .ref (a 33)), (1, .int x1), (2, .int x2), (3, .ref (a 35)), (4, .int x4), (5, .int x5)] → W p l e { frames := 1, cells := 0, slots := 0, locals := 23 } s m args below meth c H locs 0 0 (MQ below (gI (dC, dI) (tyz cB cI cJ cZ) (wX cB cI cJ cZ a (a 35) (a 4) ww_latestFault tp_bytes tp_size rd_fault rd_faultPlace rd_kind rd_start rd_at rd_number dr_letterMarks dr_names dr_spelled dr_rows dr_alike dr_near dr_asks dr_letters dr_words dr_askCount sh_lanes sh_sizes sh_cells la_xs la_ys la_heights la_ridgeXs la_ridgeHeights la_way la_blurs la_steps la_places la_ridges la_wayBlur la_wayLength bk_times bk_froms bk_asks bk_words bk_firsts bk_lies bk_held bk_size nu_learned nu_size to_letterMarks to_names to_spelled to_rows to_alike to_near to_asks to_letters to_words to_askCount) A r0) args s 0 0 A) (F0 m 6 ls []) := by
  obtain ⟨hx, hb, hr, hml, hown, hts, hlocks, hK, hA, hE⟩ := id C0
  have hw0 := hts (.fieldLink RX2 34 "WhistledWords$Tongue" "words" "I") (by decide +kernel)
  have hw1 := hts (.initialized RX8) (by decide +kernel)
  have hw2 := hts (.static yX8_isIn) (by decide +kernel)
  have hnX7 : ∀ w ∈ u_ws RX7 TX7 10, w ∈ wsX2_confusedPairs := fun _ h => List.mem_cons_of_mem _ (List.mem_append_left _ (List.mem_append_right _ h))
  intro k
  induction k with
  | zero =>
    intro x4 x5 H locs ls h
    cases h
  | succ k ih =>
    intro x4 x5 H locs ls h hP hD hS hl
    rw [fX2_confusedPairs_p6] at h
    refine lv_iload hx hb dX2_confusedPairs_6 (lv_at hl 5 rfl) ?_
    refine lv_aload_n hx hb dX2_confusedPairs_8 rfl (lv_at hl 3 rfl) ?_
    refine gX_told_words hx hb hts hnX7 hown hK hP hw0 dX2_confusedPairs_9 ?_
    refine lv_icmp_ge (tgt := 48) hx hb dX2_confusedPairs_12 (by decide) (fun c1 => ?_) (fun c1 => ?_)
    · have h := it_use c1 h
      refine lv_iload hx hb dX2_confusedPairs_48 (lv_at hl 4 rfl) ?_
      refine lv_iconst (v := 2) hx hb dX2_confusedPairs_50 (by decide) ?_
      refine lv_idiv hx hb dX2_confusedPairs_51 (by decide) ?_
      obtain er := rt1_use h
      exact re_i hx hb hr hlocks hK hP hD hS er dX2_confusedPairs_52
    · have h := ie_use c1 h
      refine lv_iload_n hx hb dX2_confusedPairs_15 rfl (lv_at hl 2 rfl) ?_
      refine lv_iload hx hb dX2_confusedPairs_16 (lv_at hl 5 rfl) ?_
      obtain ⟨v2, hc, h⟩ := bd1_use h
      refine cn_i (As := [.int x2, .int x5]) (rest := []) ⟨hx, hb, hml, hown, hts⟩ (kX8_isIn l n x2 x5 v2 hc) ⟨va_cnB 2 hts ggX2_confusedPairs_X8_isIn rfl rfl rfl (hE.1.1) hw1 (by decide +kernel) ⟨Nat.le_of_ble_eq_true rfl, Nat.le_of_ble_eq_true rfl⟩, hw2, trivial⟩ hP hS rfl hl.1 rfl (Nat.le_of_ble_eq_true rfl) dX2_confusedPairs_18 ⟨Nat.zero_le _, Nat.zero_le _⟩ (fun H locs hP hS => ?_)
      refine lv_if_eq (tgt := 42) hx hb dX2_confusedPairs_21 (by decide) (fun c3 => ?_) (fun c3 => ?_)
      · have h := it_use c3 h
        refine lv_iinc (v := x5 + 1) (lv' := [(5, .int (x5 + 1)), (0, .ref (a 33)), (1, .int x1), (2, .int x2), (3, .ref (a 35)), (4, .int x4)]) hx hb dX2_confusedPairs_42 hl (k := 5) rfl rfl (by decide) rfl (fun ls hl => ?_)
        refine lv_goto (tgt := 6) hx hb dX2_confusedPairs_45 (by decide) ?_
        exact ih x4 (x5 + 1) _ _ ls h hP hD hS (lv_sub hl [1, 2, 3, 4, 5, 0] rfl)
      · have h := ie_use c3 h
        refine lv_iload hx hb dX2_confusedPairs_24 (lv_at hl 4 rfl) ?_
        refine lv_aload_n hx hb dX2_confusedPairs_26 rfl (lv_at hl 0 rfl) ?_
        refine lv_iload_n hx hb dX2_confusedPairs_27 rfl (lv_at hl 1 rfl) ?_
        refine lv_iload hx hb dX2_confusedPairs_28 (lv_at hl 5 rfl) ?_
        refine lv_aload_n hx hb dX2_confusedPairs_30 rfl (lv_at hl 3 rfl) ?_
        obtain ⟨v4, hc, h⟩ := bd1_use h
        refine cv_i (As := [.int x1, .int x5, .ref (a 35)]) (rest := [.int x4]) ⟨hx, hb, hml, hown, hts⟩ (kX2_confusedWith l n dC dI cB cI cJ cZ a adK adV _ ww_latestFault tp_bytes tp_size rd_fault rd_faultPlace rd_kind rd_start rd_at rd_number dr_letterMarks dr_names dr_spelled dr_rows dr_alike dr_near dr_asks dr_letters dr_words dr_askCount sh_lanes sh_sizes sh_cells la_xs la_ys la_heights la_ridgeXs la_ridgeHeights la_way la_blurs la_steps la_places la_ridges la_wayBlur la_wayLength bk_times bk_froms bk_asks bk_words bk_firsts bk_lies bk_held bk_size nu_learned nu_size to_letterMarks to_names to_spelled to_rows to_alike to_near to_asks to_letters to_words to_askCount x1 x5 v4 hc) (cwV 3 hts gX2_confusedPairs_X2_confusedWith rfl rfl rfl (by decide +kernel) ⟨Nat.le_of_ble_eq_true rfl, Nat.le_of_ble_eq_true rfl⟩) EB_X hE hK hP hD hS hA 33 (ci := 2) rfl rfl rfl rfl hl.1 rfl (Nat.le_of_ble_eq_true rfl) dX2_confusedPairs_31 ⟨Nat.zero_le _, Nat.zero_le _⟩ (fun H locs hP hD hS => ?_)
        refine lv_iload_n hx hb dX2_confusedPairs_34 rfl (lv_at hl 2 rfl) ?_
        refine lv_iand hx hb dX2_confusedPairs_35 ?_
        obtain ⟨v5, hc, h⟩ := bd1_use h
        refine cs_i (As := [.int (v4 &&& x2)]) (rest := [.int x4]) ⟨hx, hb, hml, hown, hts⟩ (kJ6_bitCount_0f7a4 l n (v4 &&& x2) v5 hc) (va_cwS 1 hts gX2_confusedPairs_J6_bitCount_0f7a4 rfl rfl rfl (by decide +kernel) ⟨Nat.le_of_ble_eq_true rfl, Nat.le_of_ble_eq_true rfl⟩) hP hS rfl hl.1 rfl (Nat.le_of_ble_eq_true rfl) dX2_confusedPairs_36 ⟨Nat.zero_le _, Nat.zero_le _⟩ (fun H locs hP hS => ?_)
        refine lv_iadd hx hb dX2_confusedPairs_39 ?_
        refine lv_topi (fun v6 ev6 => ?_)
        have h := nm_use ev6 h
        refine lv_istore (lv' := [(4, .int v6), (0, .ref (a 33)), (1, .int x1), (2, .int x2), (3, .ref (a 35)), (5, .int x5)]) hx hb dX2_confusedPairs_40 hl (by decide) rfl (fun ls hl => ?_)
        refine lv_iinc (v := x5 + 1) (lv' := [(5, .int (x5 + 1)), (4, .int v6), (0, .ref (a 33)), (1, .int x1), (2, .int x2), (3, .ref (a 35))]) hx hb dX2_confusedPairs_42 hl (k := 5) rfl rfl (by decide) rfl (fun ls hl => ?_)
        refine lv_goto (tgt := 6) hx hb dX2_confusedPairs_45 (by decide) ?_
        exact ih v6 (x5 + 1) _ _ ls h hP hD hS (lv_sub hl [2, 3, 4, 5, 1, 0] rfl)
theorem kX2_confusedPairs_p6 {p : Program} {l : Launch} {e : Env} {s : State} {m : MethodId} {args : Array Value} {below : List Frame} {meth : Method} {c : Code} {A : Nat → Prop} (dC : Nat → ClassId) (dI : Nat → Nat → Nat) (cB cI cJ cZ : ClassId) (a : Nat → Nat) (adK adV : Nat → Nat) (C0 : cxt cX2_confusedPairs (some .int) 6 RX2 wsX2_confusedPairs (dC, dI) (tyz cB cI cJ cZ) (E_X adK adV) A p s m args meth c) (n : Nat) (ww_latestFault : Int32) (tp_bytes : Nat → Int32) (tp_size : Int32) (rd_fault : Int32) (rd_faultPlace : Int32) (rd_kind : Int32) (rd_start : Int32) (rd_at : Int32) (rd_number : Int32) (dr_letterMarks : Nat → Int32) (dr_names : Nat → Int64) (dr_spelled : Nat → Int32) (dr_rows : Nat → Int64) (dr_alike : Nat → Int32) (dr_near : Nat → Int32) (dr_asks : Nat → Int32) (dr_letters : Int32) (dr_words : Int32) (dr_askCount : Int32) (sh_lanes : Nat → Int32) (sh_sizes : Nat → Int32) (sh_cells : Nat → Int32) (la_xs : Nat → Int32) (la_ys : Nat → Int32) (la_heights : Nat → Int32) (la_ridgeXs : Nat → Int32) (la_ridgeHeights : Nat → Int32) (la_way : Nat → Int32) (la_blurs : Nat → Int32) (la_steps : Nat → Int32) (la_places : Int32) (la_ridges : Int32) (la_wayBlur : Int32) (la_wayLength : Int32) (bk_times : Nat → Int32) (bk_froms : Nat → Int32) (bk_asks : Nat → Int32) (bk_words : Nat → Int32) (bk_firsts : Nat → Int32) (bk_lies : Nat → Int32) (bk_held : Nat → Int32) (bk_size : Int32) (nu_learned : Nat → Int32) (nu_size : Int32) (to_letterMarks : Nat → Int32) (to_names : Nat → Int64) (to_spelled : Nat → Int32) (to_rows : Nat → Int64) (to_alike : Nat → Int32) (to_near : Nat → Int32) (to_asks : Nat → Int32) (to_letters : Int32) (to_words : Int32) (to_askCount : Int32)  (x1 : Int32) (x2 : Int32) (x4 : Int32) (x5 : Int32) (r0 : Int32)  (k : Nat) (H : Heap) (locs : List Loc) (ls : Array Slot) : fX2_confusedPairs_p6 n nu_learned to_near to_words x1 x2 k x4 x5 = some r0 → va_P (dC, dI) vwCl (wX cB cI cJ cZ a (a 35) (a 4) ww_latestFault tp_bytes tp_size rd_fault rd_faultPlace rd_kind rd_start rd_at rd_number dr_letterMarks dr_names dr_spelled dr_rows dr_alike dr_near dr_asks dr_letters dr_words dr_askCount sh_lanes sh_sizes sh_cells la_xs la_ys la_heights la_ridgeXs la_ridgeHeights la_way la_blurs la_steps la_places la_ridges la_wayBlur la_wayLength bk_times bk_froms bk_asks bk_words bk_firsts bk_lies bk_held bk_size nu_learned nu_size to_letterMarks to_names to_spelled to_rows to_alike to_near to_asks to_letters to_words to_askCount) H → va_D A (wX cB cI cJ cZ a (a 35) (a 4) ww_latestFault tp_bytes tp_size rd_fault rd_faultPlace rd_kind rd_start rd_at rd_number dr_letterMarks dr_names dr_spelled dr_rows dr_alike dr_near dr_asks dr_letters dr_words dr_askCount sh_lanes sh_sizes sh_cells la_xs la_ys la_heights la_ridgeXs la_ridgeHeights la_way la_blurs la_steps la_places la_ridges la_wayBlur la_wayLength bk_times bk_froms bk_asks bk_words bk_firsts bk_lies bk_held bk_size nu_learned nu_size to_letterMarks to_names to_spelled to_rows to_alike to_near to_asks to_letters to_words to_askCount) → va_S A s.heap H locs → lv_has ls 6 [(0, .ref (a 33)), (1, .int x1), (2, .int x2), (3, .ref (a 35)), (4, .int x4), (5, .int x5)] → W p l e { frames := 1, cells := 0, slots := 0, locals := 23 } s m args below meth c H locs 0 0 (MQ below (gI (dC, dI) (tyz cB cI cJ cZ) (wX cB cI cJ cZ a (a 35) (a 4) ww_latestFault tp_bytes tp_size rd_fault rd_faultPlace rd_kind rd_start rd_at rd_number dr_letterMarks dr_names dr_spelled dr_rows dr_alike dr_near dr_asks dr_letters dr_words dr_askCount sh_lanes sh_sizes sh_cells la_xs la_ys la_heights la_ridgeXs la_ridgeHeights la_way la_blurs la_steps la_places la_ridges la_wayBlur la_wayLength bk_times bk_froms bk_asks bk_words bk_firsts bk_lies bk_held bk_size nu_learned nu_size to_letterMarks to_names to_spelled to_rows to_alike to_near to_asks to_letters to_words to_askCount) A r0) args s 0 0 A) (F0 m 6 ls []) :=
  kX2_confusedPairs_p6_r dC dI cB cI cJ cZ a adK adV C0 n ww_latestFault tp_bytes tp_size rd_fault rd_faultPlace rd_kind rd_start rd_at rd_number dr_letterMarks dr_names dr_spelled dr_rows dr_alike dr_near dr_asks dr_letters dr_words dr_askCount sh_lanes sh_sizes sh_cells la_xs la_ys la_heights la_ridgeXs la_ridgeHeights la_way la_blurs la_steps la_places la_ridges la_wayBlur la_wayLength bk_times bk_froms bk_asks bk_words bk_firsts bk_lies bk_held bk_size nu_learned nu_size to_letterMarks to_names to_spelled to_rows to_alike to_near to_asks to_letters to_words to_askCount x1 x2 r0  k x4 x5 H locs ls
set_option maxHeartbeats 4000000 in
set_option maxRecDepth 100000 in
theorem kX2_confusedPairs (l : Launch) (n : Nat) (dC : Nat → ClassId) (dI : Nat → Nat → Nat) (cB cI cJ cZ : ClassId) (a : Nat → Nat) (adK adV : Nat → Nat) (sz : Nat) (ww_latestFault : Int32) (tp_bytes : Nat → Int32) (tp_size : Int32) (rd_fault : Int32) (rd_faultPlace : Int32) (rd_kind : Int32) (rd_start : Int32) (rd_at : Int32) (rd_number : Int32) (dr_letterMarks : Nat → Int32) (dr_names : Nat → Int64) (dr_spelled : Nat → Int32) (dr_rows : Nat → Int64) (dr_alike : Nat → Int32) (dr_near : Nat → Int32) (dr_asks : Nat → Int32) (dr_letters : Int32) (dr_words : Int32) (dr_askCount : Int32) (sh_lanes : Nat → Int32) (sh_sizes : Nat → Int32) (sh_cells : Nat → Int32) (la_xs : Nat → Int32) (la_ys : Nat → Int32) (la_heights : Nat → Int32) (la_ridgeXs : Nat → Int32) (la_ridgeHeights : Nat → Int32) (la_way : Nat → Int32) (la_blurs : Nat → Int32) (la_steps : Nat → Int32) (la_places : Int32) (la_ridges : Int32) (la_wayBlur : Int32) (la_wayLength : Int32) (bk_times : Nat → Int32) (bk_froms : Nat → Int32) (bk_asks : Nat → Int32) (bk_words : Nat → Int32) (bk_firsts : Nat → Int32) (bk_lies : Nat → Int32) (bk_held : Nat → Int32) (bk_size : Int32) (nu_learned : Nat → Int32) (nu_size : Int32) (to_letterMarks : Nat → Int32) (to_names : Nat → Int64) (to_spelled : Nat → Int32) (to_rows : Nat → Int64) (to_alike : Nat → Int32) (to_near : Nat → Int32) (to_asks : Nat → Int32) (to_letters : Int32) (to_words : Int32) (to_askCount : Int32) (x1 : Int32) (x2 : Int32) (r0 : Int32) (h : fX2_confusedPairs n nu_learned to_near to_words x1 x2 = some r0) : Met l yX2_confusedPairs wsX2_confusedPairs ({ frames := 1, cells := 0, slots := 0, locals := 23 }) (gP (dC, dI) (tyz cB cI cJ cZ) (E_X adK adV) (wX cB cI cJ cZ a (a 35) (a 4) ww_latestFault tp_bytes tp_size rd_fault rd_faultPlace rd_kind rd_start rd_at rd_number dr_letterMarks dr_names dr_spelled dr_rows dr_alike dr_near dr_asks dr_letters dr_words dr_askCount sh_lanes sh_sizes sh_cells la_xs la_ys la_heights la_ridgeXs la_ridgeHeights la_way la_blurs la_steps la_places la_ridges la_wayBlur la_wayLength bk_times bk_froms bk_asks bk_words bk_firsts bk_lies bk_held bk_size nu_learned nu_size to_letterMarks to_names to_spelled to_rows to_alike to_near to_asks to_letters to_words to_askCount) sz [.ref (a 33), .int x1, .int x2, .ref (a 35)]) (gI (dC, dI) (tyz cB cI cJ cZ) (wX cB cI cJ cZ a (a 35) (a 4) ww_latestFault tp_bytes tp_size rd_fault rd_faultPlace rd_kind rd_start rd_at rd_number dr_letterMarks dr_names dr_spelled dr_rows dr_alike dr_near dr_asks dr_letters dr_words dr_askCount sh_lanes sh_sizes sh_cells la_xs la_ys la_heights la_ridgeXs la_ridgeHeights la_way la_blurs la_steps la_places la_ridges la_wayBlur la_wayLength bk_times bk_froms bk_asks bk_words bk_firsts bk_lies bk_held bk_size nu_learned nu_size to_letterMarks to_names to_spelled to_rows to_alike to_near to_asks to_letters to_words to_askCount) (va_A (wX cB cI cJ cZ a (a 35) (a 4) ww_latestFault tp_bytes tp_size rd_fault rd_faultPlace rd_kind rd_start rd_at rd_number dr_letterMarks dr_names dr_spelled dr_rows dr_alike dr_near dr_asks dr_letters dr_words dr_askCount sh_lanes sh_sizes sh_cells la_xs la_ys la_heights la_ridgeXs la_ridgeHeights la_way la_blurs la_steps la_places la_ridges la_wayBlur la_wayLength bk_times bk_froms bk_asks bk_words bk_firsts bk_lies bk_held bk_size nu_learned nu_size to_letterMarks to_names to_spelled to_rows to_alike to_near to_asks to_letters to_words to_askCount) sz) r0) 0 0 (va_A (wX cB cI cJ cZ a (a 35) (a 4) ww_latestFault tp_bytes tp_size rd_fault rd_faultPlace rd_kind rd_start rd_at rd_number dr_letterMarks dr_names dr_spelled dr_rows dr_alike dr_near dr_asks dr_letters dr_words dr_askCount sh_lanes sh_sizes sh_cells la_xs la_ys la_heights la_ridgeXs la_ridgeHeights la_way la_blurs la_steps la_places la_ridges la_wayBlur la_wayLength bk_times bk_froms bk_asks bk_words bk_firsts bk_lies bk_held bk_size nu_learned nu_size to_letterMarks to_names to_spelled to_rows to_alike to_near to_asks to_letters to_words to_askCount) sz) := by
  refine Met.ofW (cc := cX2_confusedPairs) (maxL := 6) (ret := (some .int)) (by decide) rfl ?_
  intro p e s m args below meth c s₁ B hml hv
  obtain ⟨rfl, hsz, hP, hK, hD0, hE⟩ := hv
  have hx := B.exec
  have hb := B.bytes
  have hr := B.returns
  have hts := atoms_spec (ws := wsX2_confusedPairs) B.pre
  have hown : s.vm.findClass RX2 = some m.cls := findClass_of_methodNamed B.named
  have hlocks := B.notSynchronized
  subst hsz
  have hD := hD0.self (sz := s.heap.size)
  have hA : ∀ q : Nat, s.heap.size ≤ q → va_A (wX cB cI cJ cZ a (a 35) (a 4) ww_latestFault tp_bytes tp_size rd_fault rd_faultPlace rd_kind rd_start rd_at rd_number dr_letterMarks dr_names dr_spelled dr_rows dr_alike dr_near dr_asks dr_letters dr_words dr_askCount sh_lanes sh_sizes sh_cells la_xs la_ys la_heights la_ridgeXs la_ridgeHeights la_way la_blurs la_steps la_places la_ridges la_wayBlur la_wayLength bk_times bk_froms bk_asks bk_words bk_firsts bk_lies bk_held bk_size nu_learned nu_size to_letterMarks to_names to_spelled to_rows to_alike to_near to_asks to_letters to_words to_askCount) s.heap.size q := fun q h => Or.inr h
  generalize va_A (wX cB cI cJ cZ a (a 35) (a 4) ww_latestFault tp_bytes tp_size rd_fault rd_faultPlace rd_kind rd_start rd_at rd_number dr_letterMarks dr_names dr_spelled dr_rows dr_alike dr_near dr_asks dr_letters dr_words dr_askCount sh_lanes sh_sizes sh_cells la_xs la_ys la_heights la_ridgeXs la_ridgeHeights la_way la_blurs la_steps la_places la_ridges la_wayBlur la_wayLength bk_times bk_froms bk_asks bk_words bk_firsts bk_lies bk_held bk_size nu_learned nu_size to_letterMarks to_names to_spelled to_rows to_alike to_near to_asks to_letters to_words to_askCount) s.heap.size = A at hD hA hE ⊢
  have hS : va_S A s.heap s.heap [] := va_S.rf
  have C0 : cxt cX2_confusedPairs (some .int) 6 RX2 wsX2_confusedPairs (dC, dI) (tyz cB cI cJ cZ) (E_X adK adV) A p s m ([.ref (a 33), .int x1, .int x2, .ref (a 35)] : List Value).toArray meth c := ⟨hx, hb, hr, hml, hown, hts, hlocks, hK, hA, hE⟩
  have hl := lv_entry ([.ref (a 33), .int x1, .int x2, .ref (a 35)]) (n := 6) (Nat.le_of_ble_eq_true rfl)
  rw [lg_entry_eq]
  generalize (lg_sl ([.ref (a 33), .int x1, .int x2, .ref (a 35)]) ++ List.replicate (6 - (lg_sl ([.ref (a 33), .int x1, .int x2, .ref (a 35)])).length) Slot.unset).toArray = ls at hl ⊢
  have hl : lv_has ls 6 [(0, .ref (a 33)), (1, .int x1), (2, .int x2), (3, .ref (a 35))] := hl
  unfold fX2_confusedPairs at h
  refine lv_iconst (v := 0) hx hb dX2_confusedPairs_0 (by decide) ?_
  refine lv_istore (lv' := [(4, .int (0 : Int32)), (0, .ref (a 33)), (1, .int x1), (2, .int x2), (3, .ref (a 35))]) hx hb dX2_confusedPairs_1 hl (by decide) rfl (fun ls hl => ?_)
  refine lv_iconst (v := 0) hx hb dX2_confusedPairs_3 (by decide) ?_
  refine lv_istore (lv' := [(5, .int (0 : Int32)), (4, .int (0 : Int32)), (0, .ref (a 33)), (1, .int x1), (2, .int x2), (3, .ref (a 35))]) hx hb dX2_confusedPairs_4 hl (by decide) rfl (fun ls hl => ?_)
  exact kX2_confusedPairs_p6 dC dI cB cI cJ cZ a adK adV C0 n ww_latestFault tp_bytes tp_size rd_fault rd_faultPlace rd_kind rd_start rd_at rd_number dr_letterMarks dr_names dr_spelled dr_rows dr_alike dr_near dr_asks dr_letters dr_words dr_askCount sh_lanes sh_sizes sh_cells la_xs la_ys la_heights la_ridgeXs la_ridgeHeights la_way la_blurs la_steps la_places la_ridges la_wayBlur la_wayLength bk_times bk_froms bk_asks bk_words bk_firsts bk_lies bk_held bk_size nu_learned nu_size to_letterMarks to_names to_spelled to_rows to_alike to_near to_asks to_letters to_words to_askCount x1 x2 (0 : Int32) (0 : Int32) r0  n _ _ ls h hP hD hS (lv_sub hl [2, 3, 4, 5, 1, 0] rfl)
set_option maxHeartbeats 4000000 in
set_option maxRecDepth 100000 in
theorem kX2_groupWith_p22_r {p : Program} {l : Launch} {e : Env} {s : State} {m : MethodId} {args : Array Value} {below : List Frame} {meth : Method} {c : Code} {A : Nat → Prop} (dC : Nat → ClassId) (dI : Nat → Nat → Nat) (cB cI cJ cZ : ClassId) (a : Nat → Nat) (adK adV : Nat → Nat) (C0 : cxt cX2_groupWith (some .int) 8 RX2 wsX2_groupWith (dC, dI) (tyz cB cI cJ cZ) (E_X adK adV) A p s m args meth c) (n : Nat) (ww_latestFault : Int32) (tp_bytes : Nat → Int32) (tp_size : Int32) (rd_fault : Int32) (rd_faultPlace : Int32) (rd_kind : Int32) (rd_start : Int32) (rd_at : Int32) (rd_number : Int32) (dr_letterMarks : Nat → Int32) (dr_names : Nat → Int64) (dr_spelled : Nat → Int32) (dr_rows : Nat → Int64) (dr_alike : Nat → Int32) (dr_near : Nat → Int32) (dr_asks : Nat → Int32) (dr_letters : Int32) (dr_words : Int32) (dr_askCount : Int32) (sh_lanes : Nat → Int32) (sh_sizes : Nat → Int32) (sh_cells : Nat → Int32) (la_xs : Nat → Int32) (la_ys : Nat → Int32) (la_heights : Nat → Int32) (la_ridgeXs : Nat → Int32) (la_ridgeHeights : Nat → Int32) (la_way : Nat → Int32) (la_blurs : Nat → Int32) (la_steps : Nat → Int32) (la_places : Int32) (la_ridges : Int32) (la_wayBlur : Int32) (la_wayLength : Int32) (bk_times : Nat → Int32) (bk_froms : Nat → Int32) (bk_asks : Nat → Int32) (bk_words : Nat → Int32) (bk_firsts : Nat → Int32) (bk_lies : Nat → Int32) (bk_held : Nat → Int32) (bk_size : Int32) (nu_learned : Nat → Int32) (nu_size : Int32) (to_letterMarks : Nat → Int32) (to_names : Nat → Int64) (to_spelled : Nat → Int32) (to_rows : Nat → Int64) (to_alike : Nat → Int32) (to_near : Nat → Int32) (to_asks : Nat → Int32) (to_letters : Int32) (to_words : Int32) (to_askCount : Int32) (x1 : Int32) (x4 : Int32) (x5 : Int32) (r0 : Int32) (rec8 : Int32 → Int32 → Option (Int32)) (hrec8 : ∀ (y_x4 : Int32) (y_x5 : Int32) (H : Heap) (locs : List Loc) (ls : Array Slot), rec8 y_x4 y_x5 = some r0 → va_P (dC, dI) vwCl (wX cB cI cJ cZ a (a 35) (a 4) ww_latestFault tp_bytes tp_size rd_fault rd_faultPlace rd_kind rd_start rd_at rd_number dr_letterMarks dr_names dr_spelled dr_rows dr_alike dr_near dr_asks dr_letters dr_words dr_askCount sh_lanes sh_sizes sh_cells la_xs la_ys la_heights la_ridgeXs la_ridgeHeights la_way la_blurs la_steps la_places la_ridges la_wayBlur la_wayLength bk_times bk_froms bk_asks bk_words bk_firsts bk_lies bk_held bk_size nu_learned nu_size to_letterMarks to_names to_spelled to_rows to_alike to_near to_asks to_letters to_words to_askCount) H → va_D A (wX cB cI cJ cZ a (a 35) (a 4) ww_latestFault tp_bytes tp_size rd_fault rd_faultPlace rd_kind rd_start rd_at rd_number dr_letterMarks dr_names dr_spelled dr_rows dr_alike dr_near dr_asks dr_letters dr_words dr_askCount sh_lanes sh_sizes sh_cells la_xs la_ys la_heights la_ridgeXs la_ridgeHeights la_way la_blurs la_steps la_places la_ridges la_wayBlur la_wayLength bk_times bk_froms bk_asks bk_words bk_firsts bk_lies bk_held bk_size nu_learned nu_size to_letterMarks to_names to_spelled to_rows to_alike to_near to_asks to_letters to_words to_askCount) → va_S A s.heap H locs → lv_has ls 8 [(0, .ref (a 33)), (1, .int x1), (3, .ref (a 35)), (4, .int y_x4), (5, .int y_x5)] → W p l e { frames := 1, cells := 0, slots := 0, locals := 23 } s m args below meth c H locs 0 0 (MQ below (gI (dC, dI) (tyz cB cI cJ cZ) (wX cB cI cJ cZ a (a 35) (a 4) ww_latestFault tp_bytes tp_size rd_fault rd_faultPlace rd_kind rd_start rd_at rd_number dr_letterMarks dr_names dr_spelled dr_rows dr_alike dr_near dr_asks dr_letters dr_words dr_askCount sh_lanes sh_sizes sh_cells la_xs la_ys la_heights la_ridgeXs la_ridgeHeights la_way la_blurs la_steps la_places la_ridges la_wayBlur la_wayLength bk_times bk_froms bk_asks bk_words bk_firsts bk_lies bk_held bk_size nu_learned nu_size to_letterMarks to_names to_spelled to_rows to_alike to_near to_asks to_letters to_words to_askCount) A r0) args s 0 0 A) (F0 m 8 ls [])) : ∀ (k : Nat) (x6 : Int32) (x7 : Int32) (H : Heap) (locs : List Loc) (ls : Array Slot), fX2_groupWith_p22 n nu_learned to_near to_words x1 x4 x5 rec8 k x6 x7 = some r0 → va_P (dC, dI) vwCl (wX cB cI cJ cZ a (a 35) (a 4) ww_latestFault tp_bytes tp_size rd_fault rd_faultPlace rd_kind rd_start rd_at rd_number dr_letterMarks dr_names dr_spelled dr_rows dr_alike dr_near dr_asks dr_letters dr_words dr_askCount sh_lanes sh_sizes sh_cells la_xs la_ys la_heights la_ridgeXs la_ridgeHeights la_way la_blurs la_steps la_places la_ridges la_wayBlur la_wayLength bk_times bk_froms bk_asks bk_words bk_firsts bk_lies bk_held bk_size nu_learned nu_size to_letterMarks to_names to_spelled to_rows to_alike to_near to_asks to_letters to_words to_askCount) H → va_D A (wX cB cI cJ cZ a (a 35) (a 4) ww_latestFault tp_bytes tp_size rd_fault rd_faultPlace rd_kind rd_start rd_at rd_number dr_letterMarks dr_names dr_spelled dr_rows dr_alike dr_near dr_asks dr_letters dr_words dr_askCount sh_lanes sh_sizes sh_cells la_xs la_ys la_heights la_ridgeXs la_ridgeHeights la_way la_blurs la_steps la_places la_ridges la_wayBlur la_wayLength bk_times bk_froms bk_asks bk_words bk_firsts bk_lies bk_held bk_size nu_learned nu_size to_letterMarks to_names to_spelled to_rows to_alike to_near to_asks to_letters to_words to_askCount) → va_S A s.heap H locs → lv_has ls 8 [(0, .ref (a 33)), (1, .int x1), (3, .ref (a 35)), (4, .int x4), (5, .int x5), (6, .int x6), (7, .int x7)] → W p l e { frames := 1, cells := 0, slots := 0, locals := 23 } s m args below meth c H locs 0 0 (MQ below (gI (dC, dI) (tyz cB cI cJ cZ) (wX cB cI cJ cZ a (a 35) (a 4) ww_latestFault tp_bytes tp_size rd_fault rd_faultPlace rd_kind rd_start rd_at rd_number dr_letterMarks dr_names dr_spelled dr_rows dr_alike dr_near dr_asks dr_letters dr_words dr_askCount sh_lanes sh_sizes sh_cells la_xs la_ys la_heights la_ridgeXs la_ridgeHeights la_way la_blurs la_steps la_places la_ridges la_wayBlur la_wayLength bk_times bk_froms bk_asks bk_words bk_firsts bk_lies bk_held bk_size nu_learned nu_size to_letterMarks to_names to_spelled to_rows to_alike to_near to_asks to_letters to_words to_askCount) A r0) args s 0 0 A) (F0 m 22 ls []) := by
  obtain ⟨hx, hb, hr, hml, hown, hts, hlocks, hK, hA, hE⟩ := id C0
  have hw0 := hts (.fieldLink RX2 34 "WhistledWords$Tongue" "words" "I") (by decide +kernel)
  have hw1 := hts (.initialized RX8) (by decide +kernel)
  have hw2 := hts (.static yX8_isIn) (by decide +kernel)
  have hnX7 : ∀ w ∈ u_ws RX7 TX7 10, w ∈ wsX2_groupWith := fun _ h => List.mem_cons_of_mem _ (List.mem_append_left _ (List.mem_append_right _ h))
  intro k
  induction k with
  | zero =>
    intro x6 x7 H locs ls h
    cases h
  | succ k ih =>
    intro x6 x7 H locs ls h hP hD hS hl
    rw [fX2_groupWith_p22] at h
    refine lv_iload hx hb dX2_groupWith_22 (lv_at hl 6 rfl) ?_
    refine lv_aload_n hx hb dX2_groupWith_24 rfl (lv_at hl 2 rfl) ?_
    refine gX_told_words hx hb hts hnX7 hown hK hP hw0 dX2_groupWith_25 ?_
    refine lv_icmp_ge (tgt := 60) hx hb dX2_groupWith_28 (by decide) (fun c1 => ?_) (fun c1 => ?_)
    · have h := it_use c1 h
      refine lv_iload hx hb dX2_groupWith_60 (lv_at hl 5 rfl) ?_
      refine lv_iload hx hb dX2_groupWith_62 (lv_at hl 3 rfl) ?_
      refine lv_icmp_ne (tgt := 70) hx hb dX2_groupWith_64 (by decide) (fun c2 => ?_) (fun c2 => ?_)
      · have h := ie_use c2 h
        refine lv_iload hx hb dX2_groupWith_70 (lv_at hl 5 rfl) ?_
        refine lv_istore (lv' := [(4, .int x6), (0, .ref (a 33)), (1, .int x1), (3, .ref (a 35)), (5, .int x5), (6, .int x6), (7, .int x7)]) hx hb dX2_groupWith_72 hl (by decide) rfl (fun ls hl => ?_)
        refine lv_iinc (v := x5 + 1) (lv' := [(5, .int (x5 + 1)), (4, .int x6), (0, .ref (a 33)), (1, .int x1), (3, .ref (a 35)), (6, .int x6), (7, .int x7)]) hx hb dX2_groupWith_74 hl (k := 4) rfl rfl (by decide) rfl (fun ls hl => ?_)
        refine lv_goto (tgt := 8) hx hb dX2_groupWith_77 (by decide) ?_
        exact hrec8 x6 (x5 + 1) _ _ ls h hP hD hS (lv_sub hl [2, 3, 4, 1, 0] rfl)
      · have h := it_use c2 h
        refine lv_goto (tgt := 80) hx hb dX2_groupWith_67 (by decide) ?_
        refine lv_iload hx hb dX2_groupWith_80 (lv_at hl 3 rfl) ?_
        obtain er := rt1_use h
        exact re_i hx hb hr hlocks hK hP hD hS er dX2_groupWith_82
    · have h := ie_use c1 h
      refine lv_iload hx hb dX2_groupWith_31 (lv_at hl 3 rfl) ?_
      refine lv_iload hx hb dX2_groupWith_33 (lv_at hl 6 rfl) ?_
      obtain ⟨v3, hc, h⟩ := bd1_use h
      refine cn_i (As := [.int x4, .int x7]) (rest := []) ⟨hx, hb, hml, hown, hts⟩ (kX8_isIn l n x4 x7 v3 hc) ⟨va_cnB 2 hts ggX2_groupWith_X8_isIn rfl rfl rfl (hE.1.1) hw1 (by decide +kernel) ⟨Nat.le_of_ble_eq_true rfl, Nat.le_of_ble_eq_true rfl⟩, hw2, trivial⟩ hP hS rfl hl.1 rfl (Nat.le_of_ble_eq_true rfl) dX2_groupWith_35 ⟨Nat.zero_le _, Nat.zero_le _⟩ (fun H locs hP hS => ?_)
      refine lv_if_eq (tgt := 54) hx hb dX2_groupWith_38 (by decide) (fun c4 => ?_) (fun c4 => ?_)
      · have h := it_use c4 h
        refine lv_iinc (v := x7 + 1) (lv' := [(7, .int (x7 + 1)), (0, .ref (a 33)), (1, .int x1), (3, .ref (a 35)), (4, .int x4), (5, .int x5), (6, .int x6)]) hx hb dX2_groupWith_54 hl (k := 6) rfl rfl (by decide) rfl (fun ls hl => ?_)
        refine lv_goto (tgt := 22) hx hb dX2_groupWith_57 (by decide) ?_
        exact ih x6 (x7 + 1) _ _ ls h hP hD hS (lv_sub hl [1, 2, 3, 4, 5, 6, 0] rfl)
      · have h := ie_use c4 h
        refine lv_iload hx hb dX2_groupWith_41 (lv_at hl 5 rfl) ?_
        refine lv_aload_n hx hb dX2_groupWith_43 rfl (lv_at hl 0 rfl) ?_
        refine lv_iload_n hx hb dX2_groupWith_44 rfl (lv_at hl 1 rfl) ?_
        refine lv_iload hx hb dX2_groupWith_45 (lv_at hl 6 rfl) ?_
        refine lv_aload_n hx hb dX2_groupWith_47 rfl (lv_at hl 2 rfl) ?_
        obtain ⟨v5, hc, h⟩ := bd1_use h
        refine cv_i (As := [.int x1, .int x7, .ref (a 35)]) (rest := [.int x6]) ⟨hx, hb, hml, hown, hts⟩ (kX2_confusedWith l n dC dI cB cI cJ cZ a adK adV _ ww_latestFault tp_bytes tp_size rd_fault rd_faultPlace rd_kind rd_start rd_at rd_number dr_letterMarks dr_names dr_spelled dr_rows dr_alike dr_near dr_asks dr_letters dr_words dr_askCount sh_lanes sh_sizes sh_cells la_xs la_ys la_heights la_ridgeXs la_ridgeHeights la_way la_blurs la_steps la_places la_ridges la_wayBlur la_wayLength bk_times bk_froms bk_asks bk_words bk_firsts bk_lies bk_held bk_size nu_learned nu_size to_letterMarks to_names to_spelled to_rows to_alike to_near to_asks to_letters to_words to_askCount x1 x7 v5 hc) (cwV 3 hts gX2_groupWith_X2_confusedWith rfl rfl rfl (by decide +kernel) ⟨Nat.le_of_ble_eq_true rfl, Nat.le_of_ble_eq_true rfl⟩) EB_X hE hK hP hD hS hA 33 (ci := 2) rfl rfl rfl rfl hl.1 rfl (Nat.le_of_ble_eq_true rfl) dX2_groupWith_48 ⟨Nat.zero_le _, Nat.zero_le _⟩ (fun H locs hP hD hS => ?_)
        refine lv_ior hx hb dX2_groupWith_51 ?_
        refine lv_topi (fun v6 ev6 => ?_)
        have h := nm_use ev6 h
        refine lv_istore (lv' := [(6, .int v6), (0, .ref (a 33)), (1, .int x1), (3, .ref (a 35)), (4, .int x4), (5, .int x5), (7, .int x7)]) hx hb dX2_groupWith_52 hl (by decide) rfl (fun ls hl => ?_)
        refine lv_iinc (v := x7 + 1) (lv' := [(7, .int (x7 + 1)), (6, .int v6), (0, .ref (a 33)), (1, .int x1), (3, .ref (a 35)), (4, .int x4), (5, .int x5)]) hx hb dX2_groupWith_54 hl (k := 6) rfl rfl (by decide) rfl (fun ls hl => ?_)
        refine lv_goto (tgt := 22) hx hb dX2_groupWith_57 (by decide) ?_
        exact ih v6 (x7 + 1) _ _ ls h hP hD hS (lv_sub hl [2, 3, 4, 5, 6, 1, 0] rfl)
theorem kX2_groupWith_p22 {p : Program} {l : Launch} {e : Env} {s : State} {m : MethodId} {args : Array Value} {below : List Frame} {meth : Method} {c : Code} {A : Nat → Prop} (dC : Nat → ClassId) (dI : Nat → Nat → Nat) (cB cI cJ cZ : ClassId) (a : Nat → Nat) (adK adV : Nat → Nat) (C0 : cxt cX2_groupWith (some .int) 8 RX2 wsX2_groupWith (dC, dI) (tyz cB cI cJ cZ) (E_X adK adV) A p s m args meth c) (n : Nat) (ww_latestFault : Int32) (tp_bytes : Nat → Int32) (tp_size : Int32) (rd_fault : Int32) (rd_faultPlace : Int32) (rd_kind : Int32) (rd_start : Int32) (rd_at : Int32) (rd_number : Int32) (dr_letterMarks : Nat → Int32) (dr_names : Nat → Int64) (dr_spelled : Nat → Int32) (dr_rows : Nat → Int64) (dr_alike : Nat → Int32) (dr_near : Nat → Int32) (dr_asks : Nat → Int32) (dr_letters : Int32) (dr_words : Int32) (dr_askCount : Int32) (sh_lanes : Nat → Int32) (sh_sizes : Nat → Int32) (sh_cells : Nat → Int32) (la_xs : Nat → Int32) (la_ys : Nat → Int32) (la_heights : Nat → Int32) (la_ridgeXs : Nat → Int32) (la_ridgeHeights : Nat → Int32) (la_way : Nat → Int32) (la_blurs : Nat → Int32) (la_steps : Nat → Int32) (la_places : Int32) (la_ridges : Int32) (la_wayBlur : Int32) (la_wayLength : Int32) (bk_times : Nat → Int32) (bk_froms : Nat → Int32) (bk_asks : Nat → Int32) (bk_words : Nat → Int32) (bk_firsts : Nat → Int32) (bk_lies : Nat → Int32) (bk_held : Nat → Int32) (bk_size : Int32) (nu_learned : Nat → Int32) (nu_size : Int32) (to_letterMarks : Nat → Int32) (to_names : Nat → Int64) (to_spelled : Nat → Int32) (to_rows : Nat → Int64) (to_alike : Nat → Int32) (to_near : Nat → Int32) (to_asks : Nat → Int32) (to_letters : Int32) (to_words : Int32) (to_askCount : Int32)  (x1 : Int32) (x4 : Int32) (x5 : Int32) (x6 : Int32) (x7 : Int32) (r0 : Int32) (rec8 : Int32 → Int32 → Option (Int32)) (hrec8 : ∀ (y_x4 : Int32) (y_x5 : Int32) (H : Heap) (locs : List Loc) (ls : Array Slot), rec8 y_x4 y_x5 = some r0 → va_P (dC, dI) vwCl (wX cB cI cJ cZ a (a 35) (a 4) ww_latestFault tp_bytes tp_size rd_fault rd_faultPlace rd_kind rd_start rd_at rd_number dr_letterMarks dr_names dr_spelled dr_rows dr_alike dr_near dr_asks dr_letters dr_words dr_askCount sh_lanes sh_sizes sh_cells la_xs la_ys la_heights la_ridgeXs la_ridgeHeights la_way la_blurs la_steps la_places la_ridges la_wayBlur la_wayLength bk_times bk_froms bk_asks bk_words bk_firsts bk_lies bk_held bk_size nu_learned nu_size to_letterMarks to_names to_spelled to_rows to_alike to_near to_asks to_letters to_words to_askCount) H → va_D A (wX cB cI cJ cZ a (a 35) (a 4) ww_latestFault tp_bytes tp_size rd_fault rd_faultPlace rd_kind rd_start rd_at rd_number dr_letterMarks dr_names dr_spelled dr_rows dr_alike dr_near dr_asks dr_letters dr_words dr_askCount sh_lanes sh_sizes sh_cells la_xs la_ys la_heights la_ridgeXs la_ridgeHeights la_way la_blurs la_steps la_places la_ridges la_wayBlur la_wayLength bk_times bk_froms bk_asks bk_words bk_firsts bk_lies bk_held bk_size nu_learned nu_size to_letterMarks to_names to_spelled to_rows to_alike to_near to_asks to_letters to_words to_askCount) → va_S A s.heap H locs → lv_has ls 8 [(0, .ref (a 33)), (1, .int x1), (3, .ref (a 35)), (4, .int y_x4), (5, .int y_x5)] → W p l e { frames := 1, cells := 0, slots := 0, locals := 23 } s m args below meth c H locs 0 0 (MQ below (gI (dC, dI) (tyz cB cI cJ cZ) (wX cB cI cJ cZ a (a 35) (a 4) ww_latestFault tp_bytes tp_size rd_fault rd_faultPlace rd_kind rd_start rd_at rd_number dr_letterMarks dr_names dr_spelled dr_rows dr_alike dr_near dr_asks dr_letters dr_words dr_askCount sh_lanes sh_sizes sh_cells la_xs la_ys la_heights la_ridgeXs la_ridgeHeights la_way la_blurs la_steps la_places la_ridges la_wayBlur la_wayLength bk_times bk_froms bk_asks bk_words bk_firsts bk_lies bk_held bk_size nu_learned nu_size to_letterMarks to_names to_spelled to_rows to_alike to_near to_asks to_letters to_words to_askCount) A r0) args s 0 0 A) (F0 m 8 ls [])) (k : Nat) (H : Heap) (locs : List Loc) (ls : Array Slot) : fX2_groupWith_p22 n nu_learned to_near to_words x1 x4 x5 rec8 k x6 x7 = some r0 → va_P (dC, dI) vwCl (wX cB cI cJ cZ a (a 35) (a 4) ww_latestFault tp_bytes tp_size rd_fault rd_faultPlace rd_kind rd_start rd_at rd_number dr_letterMarks dr_names dr_spelled dr_rows dr_alike dr_near dr_asks dr_letters dr_words dr_askCount sh_lanes sh_sizes sh_cells la_xs la_ys la_heights la_ridgeXs la_ridgeHeights la_way la_blurs la_steps la_places la_ridges la_wayBlur la_wayLength bk_times bk_froms bk_asks bk_words bk_firsts bk_lies bk_held bk_size nu_learned nu_size to_letterMarks to_names to_spelled to_rows to_alike to_near to_asks to_letters to_words to_askCount) H → va_D A (wX cB cI cJ cZ a (a 35) (a 4) ww_latestFault tp_bytes tp_size rd_fault rd_faultPlace rd_kind rd_start rd_at rd_number dr_letterMarks dr_names dr_spelled dr_rows dr_alike dr_near dr_asks dr_letters dr_words dr_askCount sh_lanes sh_sizes sh_cells la_xs la_ys la_heights la_ridgeXs la_ridgeHeights la_way la_blurs la_steps la_places la_ridges la_wayBlur la_wayLength bk_times bk_froms bk_asks bk_words bk_firsts bk_lies bk_held bk_size nu_learned nu_size to_letterMarks to_names to_spelled to_rows to_alike to_near to_asks to_letters to_words to_askCount) → va_S A s.heap H locs → lv_has ls 8 [(0, .ref (a 33)), (1, .int x1), (3, .ref (a 35)), (4, .int x4), (5, .int x5), (6, .int x6), (7, .int x7)] → W p l e { frames := 1, cells := 0, slots := 0, locals := 23 } s m args below meth c H locs 0 0 (MQ below (gI (dC, dI) (tyz cB cI cJ cZ) (wX cB cI cJ cZ a (a 35) (a 4) ww_latestFault tp_bytes tp_size rd_fault rd_faultPlace rd_kind rd_start rd_at rd_number dr_letterMarks dr_names dr_spelled dr_rows dr_alike dr_near dr_asks dr_letters dr_words dr_askCount sh_lanes sh_sizes sh_cells la_xs la_ys la_heights la_ridgeXs la_ridgeHeights la_way la_blurs la_steps la_places la_ridges la_wayBlur la_wayLength bk_times bk_froms bk_asks bk_words bk_firsts bk_lies bk_held bk_size nu_learned nu_size to_letterMarks to_names to_spelled to_rows to_alike to_near to_asks to_letters to_words to_askCount) A r0) args s 0 0 A) (F0 m 22 ls []) :=
  kX2_groupWith_p22_r dC dI cB cI cJ cZ a adK adV C0 n ww_latestFault tp_bytes tp_size rd_fault rd_faultPlace rd_kind rd_start rd_at rd_number dr_letterMarks dr_names dr_spelled dr_rows dr_alike dr_near dr_asks dr_letters dr_words dr_askCount sh_lanes sh_sizes sh_cells la_xs la_ys la_heights la_ridgeXs la_ridgeHeights la_way la_blurs la_steps la_places la_ridges la_wayBlur la_wayLength bk_times bk_froms bk_asks bk_words bk_firsts bk_lies bk_held bk_size nu_learned nu_size to_letterMarks to_names to_spelled to_rows to_alike to_near to_asks to_letters to_words to_askCount x1 x4 x5 r0 rec8 hrec8 k x6 x7 H locs ls
set_option maxHeartbeats 4000000 in
set_option maxRecDepth 100000 in
theorem kX2_groupWith_p8_r {p : Program} {l : Launch} {e : Env} {s : State} {m : MethodId} {args : Array Value} {below : List Frame} {meth : Method} {c : Code} {A : Nat → Prop} (dC : Nat → ClassId) (dI : Nat → Nat → Nat) (cB cI cJ cZ : ClassId) (a : Nat → Nat) (adK adV : Nat → Nat) (C0 : cxt cX2_groupWith (some .int) 8 RX2 wsX2_groupWith (dC, dI) (tyz cB cI cJ cZ) (E_X adK adV) A p s m args meth c) (n : Nat) (ww_latestFault : Int32) (tp_bytes : Nat → Int32) (tp_size : Int32) (rd_fault : Int32) (rd_faultPlace : Int32) (rd_kind : Int32) (rd_start : Int32) (rd_at : Int32) (rd_number : Int32) (dr_letterMarks : Nat → Int32) (dr_names : Nat → Int64) (dr_spelled : Nat → Int32) (dr_rows : Nat → Int64) (dr_alike : Nat → Int32) (dr_near : Nat → Int32) (dr_asks : Nat → Int32) (dr_letters : Int32) (dr_words : Int32) (dr_askCount : Int32) (sh_lanes : Nat → Int32) (sh_sizes : Nat → Int32) (sh_cells : Nat → Int32) (la_xs : Nat → Int32) (la_ys : Nat → Int32) (la_heights : Nat → Int32) (la_ridgeXs : Nat → Int32) (la_ridgeHeights : Nat → Int32) (la_way : Nat → Int32) (la_blurs : Nat → Int32) (la_steps : Nat → Int32) (la_places : Int32) (la_ridges : Int32) (la_wayBlur : Int32) (la_wayLength : Int32) (bk_times : Nat → Int32) (bk_froms : Nat → Int32) (bk_asks : Nat → Int32) (bk_words : Nat → Int32) (bk_firsts : Nat → Int32) (bk_lies : Nat → Int32) (bk_held : Nat → Int32) (bk_size : Int32) (nu_learned : Nat → Int32) (nu_size : Int32) (to_letterMarks : Nat → Int32) (to_names : Nat → Int64) (to_spelled : Nat → Int32) (to_rows : Nat → Int64) (to_alike : Nat → Int32) (to_near : Nat → Int32) (to_asks : Nat → Int32) (to_letters : Int32) (to_words : Int32) (to_askCount : Int32) (x1 : Int32) (r0 : Int32)  : ∀ (k : Nat) (x4 : Int32) (x5 : Int32) (H : Heap) (locs : List Loc) (ls : Array Slot), fX2_groupWith_p8 n nu_learned to_near to_words x1 k x4 x5 = some r0 → va_P (dC, dI) vwCl (wX cB cI cJ cZ a (a 35) (a 4) ww_latestFault tp_bytes tp_size rd_fault rd_faultPlace rd_kind rd_start rd_at rd_number dr_letterMarks dr_names dr_spelled dr_rows dr_alike dr_near dr_asks dr_letters dr_words dr_askCount sh_lanes sh_sizes sh_cells la_xs la_ys la_heights la_ridgeXs la_ridgeHeights la_way la_blurs la_steps la_places la_ridges la_wayBlur la_wayLength bk_times bk_froms bk_asks bk_words bk_firsts bk_lies bk_held bk_size nu_learned nu_size to_letterMarks to_names to_spelled to_rows to_alike to_near to_asks to_letters to_words to_askCount) H → va_D A (wX cB cI cJ cZ a (a 35) (a 4) ww_latestFault tp_bytes tp_size rd_fault rd_faultPlace rd_kind rd_start rd_at rd_number dr_letterMarks dr_names dr_spelled dr_rows dr_alike dr_near dr_asks dr_letters dr_words dr_askCount sh_lanes sh_sizes sh_cells la_xs la_ys la_heights la_ridgeXs la_ridgeHeights la_way la_blurs la_steps la_places la_ridges la_wayBlur la_wayLength bk_times bk_froms bk_asks bk_words bk_firsts bk_lies bk_held bk_size nu_learned nu_size to_letterMarks to_names to_spelled to_rows to_alike to_near to_asks to_letters to_words to_askCount) → va_S A s.heap H locs → lv_has ls 8 [(0, .ref (a 33)), (1, .int x1), (3, .ref (a 35)), (4, .int x4), (5, .int x5)] → W p l e { frames := 1, cells := 0, slots := 0, locals := 23 } s m args below meth c H locs 0 0 (MQ below (gI (dC, dI) (tyz cB cI cJ cZ) (wX cB cI cJ cZ a (a 35) (a 4) ww_latestFault tp_bytes tp_size rd_fault rd_faultPlace rd_kind rd_start rd_at rd_number dr_letterMarks dr_names dr_spelled dr_rows dr_alike dr_near dr_asks dr_letters dr_words dr_askCount sh_lanes sh_sizes sh_cells la_xs la_ys la_heights la_ridgeXs la_ridgeHeights la_way la_blurs la_steps la_places la_ridges la_wayBlur la_wayLength bk_times bk_froms bk_asks bk_words bk_firsts bk_lies bk_held bk_size nu_learned nu_size to_letterMarks to_names to_spelled to_rows to_alike to_near to_asks to_letters to_words to_askCount) A r0) args s 0 0 A) (F0 m 8 ls []) := by
  obtain ⟨hx, hb, hr, hml, hown, hts, hlocks, hK, hA, hE⟩ := id C0
  intro k
  induction k with
  | zero =>
    intro x4 x5 H locs ls h
    cases h
  | succ k ih =>
    intro x4 x5 H locs ls h hP hD hS hl
    rw [fX2_groupWith_p8] at h
    refine lv_iload hx hb dX2_groupWith_8 (lv_at hl 4 rfl) ?_
    refine lv_bipush (v := 16) hx hb dX2_groupWith_10 (by decide) ?_
    refine lv_icmp_ge (tgt := 80) hx hb dX2_groupWith_12 (by decide) (fun c1 => ?_) (fun c1 => ?_)
    · have h := it_use c1 h
      refine lv_iload hx hb dX2_groupWith_80 (lv_at hl 3 rfl) ?_
      obtain er := rt1_use h
      exact re_i hx hb hr hlocks hK hP hD hS er dX2_groupWith_82
    · have h := ie_use c1 h
      refine lv_iload hx hb dX2_groupWith_15 (lv_at hl 3 rfl) ?_
      refine lv_istore (lv' := [(6, .int x4), (0, .ref (a 33)), (1, .int x1), (3, .ref (a 35)), (4, .int x4), (5, .int x5)]) hx hb dX2_groupWith_17 hl (by decide) rfl (fun ls hl => ?_)
      refine lv_iconst (v := 0) hx hb dX2_groupWith_19 (by decide) ?_
      refine lv_istore (lv' := [(7, .int (0 : Int32)), (6, .int x4), (0, .ref (a 33)), (1, .int x1), (3, .ref (a 35)), (4, .int x4), (5, .int x5)]) hx hb dX2_groupWith_20 hl (by decide) rfl (fun ls hl => ?_)
      exact kX2_groupWith_p22 dC dI cB cI cJ cZ a adK adV C0 n ww_latestFault tp_bytes tp_size rd_fault rd_faultPlace rd_kind rd_start rd_at rd_number dr_letterMarks dr_names dr_spelled dr_rows dr_alike dr_near dr_asks dr_letters dr_words dr_askCount sh_lanes sh_sizes sh_cells la_xs la_ys la_heights la_ridgeXs la_ridgeHeights la_way la_blurs la_steps la_places la_ridges la_wayBlur la_wayLength bk_times bk_froms bk_asks bk_words bk_firsts bk_lies bk_held bk_size nu_learned nu_size to_letterMarks to_names to_spelled to_rows to_alike to_near to_asks to_letters to_words to_askCount x1 x4 x5 x4 (0 : Int32) r0 (fX2_groupWith_p8 n nu_learned to_near to_words x1 k) ih n _ _ ls h hP hD hS (lv_sub hl [2, 3, 4, 5, 6, 1, 0] rfl)
theorem kX2_groupWith_p8 {p : Program} {l : Launch} {e : Env} {s : State} {m : MethodId} {args : Array Value} {below : List Frame} {meth : Method} {c : Code} {A : Nat → Prop} (dC : Nat → ClassId) (dI : Nat → Nat → Nat) (cB cI cJ cZ : ClassId) (a : Nat → Nat) (adK adV : Nat → Nat) (C0 : cxt cX2_groupWith (some .int) 8 RX2 wsX2_groupWith (dC, dI) (tyz cB cI cJ cZ) (E_X adK adV) A p s m args meth c) (n : Nat) (ww_latestFault : Int32) (tp_bytes : Nat → Int32) (tp_size : Int32) (rd_fault : Int32) (rd_faultPlace : Int32) (rd_kind : Int32) (rd_start : Int32) (rd_at : Int32) (rd_number : Int32) (dr_letterMarks : Nat → Int32) (dr_names : Nat → Int64) (dr_spelled : Nat → Int32) (dr_rows : Nat → Int64) (dr_alike : Nat → Int32) (dr_near : Nat → Int32) (dr_asks : Nat → Int32) (dr_letters : Int32) (dr_words : Int32) (dr_askCount : Int32) (sh_lanes : Nat → Int32) (sh_sizes : Nat → Int32) (sh_cells : Nat → Int32) (la_xs : Nat → Int32) (la_ys : Nat → Int32) (la_heights : Nat → Int32) (la_ridgeXs : Nat → Int32) (la_ridgeHeights : Nat → Int32) (la_way : Nat → Int32) (la_blurs : Nat → Int32) (la_steps : Nat → Int32) (la_places : Int32) (la_ridges : Int32) (la_wayBlur : Int32) (la_wayLength : Int32) (bk_times : Nat → Int32) (bk_froms : Nat → Int32) (bk_asks : Nat → Int32) (bk_words : Nat → Int32) (bk_firsts : Nat → Int32) (bk_lies : Nat → Int32) (bk_held : Nat → Int32) (bk_size : Int32) (nu_learned : Nat → Int32) (nu_size : Int32) (to_letterMarks : Nat → Int32) (to_names : Nat → Int64) (to_spelled : Nat → Int32) (to_rows : Nat → Int64) (to_alike : Nat → Int32) (to_near : Nat → Int32) (to_asks : Nat → Int32) (to_letters : Int32) (to_words : Int32) (to_askCount : Int32)  (x1 : Int32) (x4 : Int32) (x5 : Int32) (r0 : Int32)  (k : Nat) (H : Heap) (locs : List Loc) (ls : Array Slot) : fX2_groupWith_p8 n nu_learned to_near to_words x1 k x4 x5 = some r0 → va_P (dC, dI) vwCl (wX cB cI cJ cZ a (a 35) (a 4) ww_latestFault tp_bytes tp_size rd_fault rd_faultPlace rd_kind rd_start rd_at rd_number dr_letterMarks dr_names dr_spelled dr_rows dr_alike dr_near dr_asks dr_letters dr_words dr_askCount sh_lanes sh_sizes sh_cells la_xs la_ys la_heights la_ridgeXs la_ridgeHeights la_way la_blurs la_steps la_places la_ridges la_wayBlur la_wayLength bk_times bk_froms bk_asks bk_words bk_firsts bk_lies bk_held bk_size nu_learned nu_size to_letterMarks to_names to_spelled to_rows to_alike to_near to_asks to_letters to_words to_askCount) H → va_D A (wX cB cI cJ cZ a (a 35) (a 4) ww_latestFault tp_bytes tp_size rd_fault rd_faultPlace rd_kind rd_start rd_at rd_number dr_letterMarks dr_names dr_spelled dr_rows dr_alike dr_near dr_asks dr_letters dr_words dr_askCount sh_lanes sh_sizes sh_cells la_xs la_ys la_heights la_ridgeXs la_ridgeHeights la_way la_blurs la_steps la_places la_ridges la_wayBlur la_wayLength bk_times bk_froms bk_asks bk_words bk_firsts bk_lies bk_held bk_size nu_learned nu_size to_letterMarks to_names to_spelled to_rows to_alike to_near to_asks to_letters to_words to_askCount) → va_S A s.heap H locs → lv_has ls 8 [(0, .ref (a 33)), (1, .int x1), (3, .ref (a 35)), (4, .int x4), (5, .int x5)] → W p l e { frames := 1, cells := 0, slots := 0, locals := 23 } s m args below meth c H locs 0 0 (MQ below (gI (dC, dI) (tyz cB cI cJ cZ) (wX cB cI cJ cZ a (a 35) (a 4) ww_latestFault tp_bytes tp_size rd_fault rd_faultPlace rd_kind rd_start rd_at rd_number dr_letterMarks dr_names dr_spelled dr_rows dr_alike dr_near dr_asks dr_letters dr_words dr_askCount sh_lanes sh_sizes sh_cells la_xs la_ys la_heights la_ridgeXs la_ridgeHeights la_way la_blurs la_steps la_places la_ridges la_wayBlur la_wayLength bk_times bk_froms bk_asks bk_words bk_firsts bk_lies bk_held bk_size nu_learned nu_size to_letterMarks to_names to_spelled to_rows to_alike to_near to_asks to_letters to_words to_askCount) A r0) args s 0 0 A) (F0 m 8 ls []) :=
  kX2_groupWith_p8_r dC dI cB cI cJ cZ a adK adV C0 n ww_latestFault tp_bytes tp_size rd_fault rd_faultPlace rd_kind rd_start rd_at rd_number dr_letterMarks dr_names dr_spelled dr_rows dr_alike dr_near dr_asks dr_letters dr_words dr_askCount sh_lanes sh_sizes sh_cells la_xs la_ys la_heights la_ridgeXs la_ridgeHeights la_way la_blurs la_steps la_places la_ridges la_wayBlur la_wayLength bk_times bk_froms bk_asks bk_words bk_firsts bk_lies bk_held bk_size nu_learned nu_size to_letterMarks to_names to_spelled to_rows to_alike to_near to_asks to_letters to_words to_askCount x1 r0  k x4 x5 H locs ls
set_option maxHeartbeats 4000000 in
set_option maxRecDepth 100000 in
theorem kX2_groupWith (l : Launch) (n : Nat) (dC : Nat → ClassId) (dI : Nat → Nat → Nat) (cB cI cJ cZ : ClassId) (a : Nat → Nat) (adK adV : Nat → Nat) (sz : Nat) (ww_latestFault : Int32) (tp_bytes : Nat → Int32) (tp_size : Int32) (rd_fault : Int32) (rd_faultPlace : Int32) (rd_kind : Int32) (rd_start : Int32) (rd_at : Int32) (rd_number : Int32) (dr_letterMarks : Nat → Int32) (dr_names : Nat → Int64) (dr_spelled : Nat → Int32) (dr_rows : Nat → Int64) (dr_alike : Nat → Int32) (dr_near : Nat → Int32) (dr_asks : Nat → Int32) (dr_letters : Int32) (dr_words : Int32) (dr_askCount : Int32) (sh_lanes : Nat → Int32) (sh_sizes : Nat → Int32) (sh_cells : Nat → Int32) (la_xs : Nat → Int32) (la_ys : Nat → Int32) (la_heights : Nat → Int32) (la_ridgeXs : Nat → Int32) (la_ridgeHeights : Nat → Int32) (la_way : Nat → Int32) (la_blurs : Nat → Int32) (la_steps : Nat → Int32) (la_places : Int32) (la_ridges : Int32) (la_wayBlur : Int32) (la_wayLength : Int32) (bk_times : Nat → Int32) (bk_froms : Nat → Int32) (bk_asks : Nat → Int32) (bk_words : Nat → Int32) (bk_firsts : Nat → Int32) (bk_lies : Nat → Int32) (bk_held : Nat → Int32) (bk_size : Int32) (nu_learned : Nat → Int32) (nu_size : Int32) (to_letterMarks : Nat → Int32) (to_names : Nat → Int64) (to_spelled : Nat → Int32) (to_rows : Nat → Int64) (to_alike : Nat → Int32) (to_near : Nat → Int32) (to_asks : Nat → Int32) (to_letters : Int32) (to_words : Int32) (to_askCount : Int32) (x1 : Int32) (x2 : Int32) (r0 : Int32) (h : fX2_groupWith n nu_learned to_near to_words x1 x2 = some r0) : Met l yX2_groupWith wsX2_groupWith ({ frames := 1, cells := 0, slots := 0, locals := 23 }) (gP (dC, dI) (tyz cB cI cJ cZ) (E_X adK adV) (wX cB cI cJ cZ a (a 35) (a 4) ww_latestFault tp_bytes tp_size rd_fault rd_faultPlace rd_kind rd_start rd_at rd_number dr_letterMarks dr_names dr_spelled dr_rows dr_alike dr_near dr_asks dr_letters dr_words dr_askCount sh_lanes sh_sizes sh_cells la_xs la_ys la_heights la_ridgeXs la_ridgeHeights la_way la_blurs la_steps la_places la_ridges la_wayBlur la_wayLength bk_times bk_froms bk_asks bk_words bk_firsts bk_lies bk_held bk_size nu_learned nu_size to_letterMarks to_names to_spelled to_rows to_alike to_near to_asks to_letters to_words to_askCount) sz [.ref (a 33), .int x1, .int x2, .ref (a 35)]) (gI (dC, dI) (tyz cB cI cJ cZ) (wX cB cI cJ cZ a (a 35) (a 4) ww_latestFault tp_bytes tp_size rd_fault rd_faultPlace rd_kind rd_start rd_at rd_number dr_letterMarks dr_names dr_spelled dr_rows dr_alike dr_near dr_asks dr_letters dr_words dr_askCount sh_lanes sh_sizes sh_cells la_xs la_ys la_heights la_ridgeXs la_ridgeHeights la_way la_blurs la_steps la_places la_ridges la_wayBlur la_wayLength bk_times bk_froms bk_asks bk_words bk_firsts bk_lies bk_held bk_size nu_learned nu_size to_letterMarks to_names to_spelled to_rows to_alike to_near to_asks to_letters to_words to_askCount) (va_A (wX cB cI cJ cZ a (a 35) (a 4) ww_latestFault tp_bytes tp_size rd_fault rd_faultPlace rd_kind rd_start rd_at rd_number dr_letterMarks dr_names dr_spelled dr_rows dr_alike dr_near dr_asks dr_letters dr_words dr_askCount sh_lanes sh_sizes sh_cells la_xs la_ys la_heights la_ridgeXs la_ridgeHeights la_way la_blurs la_steps la_places la_ridges la_wayBlur la_wayLength bk_times bk_froms bk_asks bk_words bk_firsts bk_lies bk_held bk_size nu_learned nu_size to_letterMarks to_names to_spelled to_rows to_alike to_near to_asks to_letters to_words to_askCount) sz) r0) 0 0 (va_A (wX cB cI cJ cZ a (a 35) (a 4) ww_latestFault tp_bytes tp_size rd_fault rd_faultPlace rd_kind rd_start rd_at rd_number dr_letterMarks dr_names dr_spelled dr_rows dr_alike dr_near dr_asks dr_letters dr_words dr_askCount sh_lanes sh_sizes sh_cells la_xs la_ys la_heights la_ridgeXs la_ridgeHeights la_way la_blurs la_steps la_places la_ridges la_wayBlur la_wayLength bk_times bk_froms bk_asks bk_words bk_firsts bk_lies bk_held bk_size nu_learned nu_size to_letterMarks to_names to_spelled to_rows to_alike to_near to_asks to_letters to_words to_askCount) sz) := by
  refine Met.ofW (cc := cX2_groupWith) (maxL := 8) (ret := (some .int)) (by decide) rfl ?_
  intro p e s m args below meth c s₁ B hml hv
  obtain ⟨rfl, hsz, hP, hK, hD0, hE⟩ := hv
  have hx := B.exec
  have hb := B.bytes
  have hr := B.returns
  have hts := atoms_spec (ws := wsX2_groupWith) B.pre
  have hown : s.vm.findClass RX2 = some m.cls := findClass_of_methodNamed B.named
  have hlocks := B.notSynchronized
  subst hsz
  have hD := hD0.self (sz := s.heap.size)
  have hA : ∀ q : Nat, s.heap.size ≤ q → va_A (wX cB cI cJ cZ a (a 35) (a 4) ww_latestFault tp_bytes tp_size rd_fault rd_faultPlace rd_kind rd_start rd_at rd_number dr_letterMarks dr_names dr_spelled dr_rows dr_alike dr_near dr_asks dr_letters dr_words dr_askCount sh_lanes sh_sizes sh_cells la_xs la_ys la_heights la_ridgeXs la_ridgeHeights la_way la_blurs la_steps la_places la_ridges la_wayBlur la_wayLength bk_times bk_froms bk_asks bk_words bk_firsts bk_lies bk_held bk_size nu_learned nu_size to_letterMarks to_names to_spelled to_rows to_alike to_near to_asks to_letters to_words to_askCount) s.heap.size q := fun q h => Or.inr h
  generalize va_A (wX cB cI cJ cZ a (a 35) (a 4) ww_latestFault tp_bytes tp_size rd_fault rd_faultPlace rd_kind rd_start rd_at rd_number dr_letterMarks dr_names dr_spelled dr_rows dr_alike dr_near dr_asks dr_letters dr_words dr_askCount sh_lanes sh_sizes sh_cells la_xs la_ys la_heights la_ridgeXs la_ridgeHeights la_way la_blurs la_steps la_places la_ridges la_wayBlur la_wayLength bk_times bk_froms bk_asks bk_words bk_firsts bk_lies bk_held bk_size nu_learned nu_size to_letterMarks to_names to_spelled to_rows to_alike to_near to_asks to_letters to_words to_askCount) s.heap.size = A at hD hA hE ⊢
  have hS : va_S A s.heap s.heap [] := va_S.rf
  have C0 : cxt cX2_groupWith (some .int) 8 RX2 wsX2_groupWith (dC, dI) (tyz cB cI cJ cZ) (E_X adK adV) A p s m ([.ref (a 33), .int x1, .int x2, .ref (a 35)] : List Value).toArray meth c := ⟨hx, hb, hr, hml, hown, hts, hlocks, hK, hA, hE⟩
  have hl := lv_entry ([.ref (a 33), .int x1, .int x2, .ref (a 35)]) (n := 8) (Nat.le_of_ble_eq_true rfl)
  rw [lg_entry_eq]
  generalize (lg_sl ([.ref (a 33), .int x1, .int x2, .ref (a 35)]) ++ List.replicate (8 - (lg_sl ([.ref (a 33), .int x1, .int x2, .ref (a 35)])).length) Slot.unset).toArray = ls at hl ⊢
  have hl : lv_has ls 8 [(0, .ref (a 33)), (1, .int x1), (2, .int x2), (3, .ref (a 35))] := hl
  unfold fX2_groupWith at h
  refine lv_iconst (v := 1) hx hb dX2_groupWith_0 (by decide) ?_
  refine lv_iload_n hx hb dX2_groupWith_1 rfl (lv_at hl 2 rfl) ?_
  refine lv_ishl hx hb dX2_groupWith_2 ?_
  refine lv_topi (fun v1 ev1 => ?_)
  have h := nm_use ev1 h
  refine lv_istore (lv' := [(4, .int v1), (0, .ref (a 33)), (1, .int x1), (2, .int x2), (3, .ref (a 35))]) hx hb dX2_groupWith_3 hl (by decide) rfl (fun ls hl => ?_)
  refine lv_iconst (v := 0) hx hb dX2_groupWith_5 (by decide) ?_
  refine lv_istore (lv' := [(5, .int (0 : Int32)), (4, .int v1), (0, .ref (a 33)), (1, .int x1), (2, .int x2), (3, .ref (a 35))]) hx hb dX2_groupWith_6 hl (by decide) rfl (fun ls hl => ?_)
  exact kX2_groupWith_p8 dC dI cB cI cJ cZ a adK adV C0 n ww_latestFault tp_bytes tp_size rd_fault rd_faultPlace rd_kind rd_start rd_at rd_number dr_letterMarks dr_names dr_spelled dr_rows dr_alike dr_near dr_asks dr_letters dr_words dr_askCount sh_lanes sh_sizes sh_cells la_xs la_ys la_heights la_ridgeXs la_ridgeHeights la_way la_blurs la_steps la_places la_ridges la_wayBlur la_wayLength bk_times bk_froms bk_asks bk_words bk_firsts bk_lies bk_held bk_size nu_learned nu_size to_letterMarks to_names to_spelled to_rows to_alike to_near to_asks to_letters to_words to_askCount x1 v1 (0 : Int32) r0  n _ _ ls h hP hD hS (lv_sub hl [2, 3, 5, 1, 0] rfl)
set_option maxHeartbeats 4000000 in
set_option maxRecDepth 100000 in
theorem kJ6_numberOfTrailingZeros_0f7a4_p62 {p : Program} {l : Launch} {e : Env} {s : State} {m : MethodId} {args : Array Value} {below : List Frame} {meth : Method} {c : Code} (C0 : cxp cJ6_numberOfTrailingZeros_0f7a4 (some .int) 2 RJ6 wsJ6_numberOfTrailingZeros_0f7a4 p s m args meth c) (n : Nat)  (x0 : Int32) (x1 : Int32)  (r0 : Int32)  (H : Heap) (locs : List Loc) (ls : Array Slot) : fJ6_numberOfTrailingZeros_0f7a4_p62 n x0 x1 = some r0 → va_S no_A s.heap H locs → lv_has ls 2 [(0, .int x0), (1, .int x1)] → W p l e { frames := 0, cells := 0, slots := 0, locals := 0 } s m args below meth c H locs 0 0 (MQ below (pI r0) args s 0 0 no_A) (F0 m 62 ls []) := by
  intro h hS hl
  obtain ⟨hx, hb, hr, hml, hown, hts, hlocks⟩ := id C0
  unfold fJ6_numberOfTrailingZeros_0f7a4_p62 at h
  refine lv_iload_n hx hb dJ6_numberOfTrailingZeros_0f7a4_62 rfl (lv_at hl 0 rfl) ?_
  refine lv_iconst (v := 4) hx hb dJ6_numberOfTrailingZeros_0f7a4_63 (by decide) ?_
  refine lv_icmp_le (tgt := 74) hx hb dJ6_numberOfTrailingZeros_0f7a4_64 (by decide) (fun c1 => ?_) (fun c1 => ?_)
  · have h := it_use c1 h
    refine lv_iload_n hx hb dJ6_numberOfTrailingZeros_0f7a4_74 rfl (lv_at hl 1 rfl) ?_
    refine lv_iload_n hx hb dJ6_numberOfTrailingZeros_0f7a4_75 rfl (lv_at hl 0 rfl) ?_
    refine lv_iconst (v := 1) hx hb dJ6_numberOfTrailingZeros_0f7a4_76 (by decide) ?_
    refine lv_iushr hx hb dJ6_numberOfTrailingZeros_0f7a4_77 rfl ?_
    refine lv_iadd hx hb dJ6_numberOfTrailingZeros_0f7a4_78 ?_
    obtain er := rt1_use h
    exact rp_i hx hb hr hlocks hS er dJ6_numberOfTrailingZeros_0f7a4_79
  · have h := ie_use c1 h
    refine lv_iinc (v := x1 + 2) (lv' := [(1, .int (x1 + 2)), (0, .int x0)]) hx hb dJ6_numberOfTrailingZeros_0f7a4_67 hl (k := 1) rfl rfl (by decide) rfl (fun ls hl => ?_)
    refine lv_iload_n hx hb dJ6_numberOfTrailingZeros_0f7a4_70 rfl (lv_at hl 1 rfl) ?_
    refine lv_iconst (v := 2) hx hb dJ6_numberOfTrailingZeros_0f7a4_71 (by decide) ?_
    refine lv_iushr hx hb dJ6_numberOfTrailingZeros_0f7a4_72 rfl ?_
    refine lv_topi (fun v2 ev2 => ?_)
    have h := nm_use ev2 h
    refine lv_istore_n (lv' := [(0, .int v2), (1, .int (x1 + 2))]) hx hb dJ6_numberOfTrailingZeros_0f7a4_73 rfl hl (by decide) rfl (fun ls hl => ?_)
    refine lv_iload_n hx hb dJ6_numberOfTrailingZeros_0f7a4_74 rfl (lv_at hl 1 rfl) ?_
    refine lv_iload_n hx hb dJ6_numberOfTrailingZeros_0f7a4_75 rfl (lv_at hl 0 rfl) ?_
    refine lv_iconst (v := 1) hx hb dJ6_numberOfTrailingZeros_0f7a4_76 (by decide) ?_
    refine lv_iushr hx hb dJ6_numberOfTrailingZeros_0f7a4_77 rfl ?_
    refine lv_iadd hx hb dJ6_numberOfTrailingZeros_0f7a4_78 ?_
    obtain er := rt1_use h
    exact rp_i hx hb hr hlocks hS er dJ6_numberOfTrailingZeros_0f7a4_79
set_option maxHeartbeats 4000000 in
set_option maxRecDepth 100000 in
theorem kJ6_numberOfTrailingZeros_0f7a4_p34 {p : Program} {l : Launch} {e : Env} {s : State} {m : MethodId} {args : Array Value} {below : List Frame} {meth : Method} {c : Code} (C0 : cxp cJ6_numberOfTrailingZeros_0f7a4 (some .int) 2 RJ6 wsJ6_numberOfTrailingZeros_0f7a4 p s m args meth c) (n : Nat)  (x0 : Int32) (x1 : Int32)  (r0 : Int32)  (H : Heap) (locs : List Loc) (ls : Array Slot) : fJ6_numberOfTrailingZeros_0f7a4_p34 n x0 x1 = some r0 → va_S no_A s.heap H locs → lv_has ls 2 [(0, .int x0), (1, .int x1)] → W p l e { frames := 0, cells := 0, slots := 0, locals := 0 } s m args below meth c H locs 0 0 (MQ below (pI r0) args s 0 0 no_A) (F0 m 34 ls []) := by
  intro h hS hl
  obtain ⟨hx, hb, hr, hml, hown, hts, hlocks⟩ := id C0
  unfold fJ6_numberOfTrailingZeros_0f7a4_p34 at h
  refine lv_iload_n hx hb dJ6_numberOfTrailingZeros_0f7a4_34 rfl (lv_at hl 0 rfl) ?_
  refine lv_sipush (v := 256) hx hb dJ6_numberOfTrailingZeros_0f7a4_35 (by decide) ?_
  refine lv_icmp_le (tgt := 49) hx hb dJ6_numberOfTrailingZeros_0f7a4_38 (by decide) (fun c1 => ?_) (fun c1 => ?_)
  · have h := it_use c1 h
    refine lv_iload_n hx hb dJ6_numberOfTrailingZeros_0f7a4_49 rfl (lv_at hl 0 rfl) ?_
    refine lv_bipush (v := 16) hx hb dJ6_numberOfTrailingZeros_0f7a4_50 (by decide) ?_
    refine lv_icmp_le (tgt := 62) hx hb dJ6_numberOfTrailingZeros_0f7a4_52 (by decide) (fun c2 => ?_) (fun c2 => ?_)
    · have h := it_use c2 h
      exact kJ6_numberOfTrailingZeros_0f7a4_p62 C0 n  x0 x1  r0  _ _ ls h hS (lv_sub hl [0, 1] rfl)
    · have h := ie_use c2 h
      refine lv_iinc (v := x1 + 4) (lv' := [(1, .int (x1 + 4)), (0, .int x0)]) hx hb dJ6_numberOfTrailingZeros_0f7a4_55 hl (k := 1) rfl rfl (by decide) rfl (fun ls hl => ?_)
      refine lv_iload_n hx hb dJ6_numberOfTrailingZeros_0f7a4_58 rfl (lv_at hl 1 rfl) ?_
      refine lv_iconst (v := 4) hx hb dJ6_numberOfTrailingZeros_0f7a4_59 (by decide) ?_
      refine lv_iushr hx hb dJ6_numberOfTrailingZeros_0f7a4_60 rfl ?_
      refine lv_topi (fun v3 ev3 => ?_)
      have h := nm_use ev3 h
      refine lv_istore_n (lv' := [(0, .int v3), (1, .int (x1 + 4))]) hx hb dJ6_numberOfTrailingZeros_0f7a4_61 rfl hl (by decide) rfl (fun ls hl => ?_)
      exact kJ6_numberOfTrailingZeros_0f7a4_p62 C0 n  v3 (x1 + 4)  r0  _ _ ls h hS (lv_sub hl [0, 1] rfl)
  · have h := ie_use c1 h
    refine lv_iinc (v := x1 + 8) (lv' := [(1, .int (x1 + 8)), (0, .int x0)]) hx hb dJ6_numberOfTrailingZeros_0f7a4_41 hl (k := 1) rfl rfl (by decide) rfl (fun ls hl => ?_)
    refine lv_iload_n hx hb dJ6_numberOfTrailingZeros_0f7a4_44 rfl (lv_at hl 1 rfl) ?_
    refine lv_bipush (v := 8) hx hb dJ6_numberOfTrailingZeros_0f7a4_45 (by decide) ?_
    refine lv_iushr hx hb dJ6_numberOfTrailingZeros_0f7a4_47 rfl ?_
    refine lv_topi (fun v4 ev4 => ?_)
    have h := nm_use ev4 h
    refine lv_istore_n (lv' := [(0, .int v4), (1, .int (x1 + 8))]) hx hb dJ6_numberOfTrailingZeros_0f7a4_48 rfl hl (by decide) rfl (fun ls hl => ?_)
    refine lv_iload_n hx hb dJ6_numberOfTrailingZeros_0f7a4_49 rfl (lv_at hl 0 rfl) ?_
    refine lv_bipush (v := 16) hx hb dJ6_numberOfTrailingZeros_0f7a4_50 (by decide) ?_
    refine lv_icmp_le (tgt := 62) hx hb dJ6_numberOfTrailingZeros_0f7a4_52 (by decide) (fun c5 => ?_) (fun c5 => ?_)
    · have h := it_use c5 h
      exact kJ6_numberOfTrailingZeros_0f7a4_p62 C0 n  v4 (x1 + 8)  r0  _ _ ls h hS (lv_sub hl [0, 1] rfl)
    · have h := ie_use c5 h
      refine lv_iinc (v := (x1 + 8) + 4) (lv' := [(1, .int ((x1 + 8) + 4)), (0, .int v4)]) hx hb dJ6_numberOfTrailingZeros_0f7a4_55 hl (k := 1) rfl rfl (by decide) rfl (fun ls hl => ?_)
      refine lv_iload_n hx hb dJ6_numberOfTrailingZeros_0f7a4_58 rfl (lv_at hl 1 rfl) ?_
      refine lv_iconst (v := 4) hx hb dJ6_numberOfTrailingZeros_0f7a4_59 (by decide) ?_
      refine lv_iushr hx hb dJ6_numberOfTrailingZeros_0f7a4_60 rfl ?_
      refine lv_topi (fun v6 ev6 => ?_)
      have h := nm_use ev6 h
      refine lv_istore_n (lv' := [(0, .int v6), (1, .int ((x1 + 8) + 4))]) hx hb dJ6_numberOfTrailingZeros_0f7a4_61 rfl hl (by decide) rfl (fun ls hl => ?_)
      exact kJ6_numberOfTrailingZeros_0f7a4_p62 C0 n  v6 ((x1 + 8) + 4)  r0  _ _ ls h hS (lv_sub hl [0, 1] rfl)
set_option maxHeartbeats 4000000 in
set_option maxRecDepth 100000 in
theorem kJ6_numberOfTrailingZeros_0f7a4 (l : Launch) (n : Nat) (x0 : Int32) (r0 : Int32) (h : fJ6_numberOfTrailingZeros_0f7a4 n  x0 = some r0) : Met l yJ6_numberOfTrailingZeros_0f7a4 wsJ6_numberOfTrailingZeros_0f7a4 ({ frames := 0, cells := 0, slots := 0, locals := 0 }) (pP [.int x0]) (pI r0) 0 0 no_A := by
  refine Met.ofW (cc := cJ6_numberOfTrailingZeros_0f7a4) (maxL := 2) (ret := (some .int)) (by decide) rfl ?_
  intro p e s m args below meth c s₁ B hml hv
  obtain ⟨rfl, -⟩ := hv
  have hx := B.exec
  have hb := B.bytes
  have hr := B.returns
  have hts := atoms_spec (ws := wsJ6_numberOfTrailingZeros_0f7a4) B.pre
  have hown : s.vm.findClass RJ6 = some m.cls := findClass_of_methodNamed B.named
  have hlocks := B.notSynchronized
  have hS : va_S no_A s.heap s.heap [] := va_S.rf
  have C0 : cxp cJ6_numberOfTrailingZeros_0f7a4 (some .int) 2 RJ6 wsJ6_numberOfTrailingZeros_0f7a4 p s m ([.int x0] : List Value).toArray meth c := ⟨hx, hb, hr, hml, hown, hts, hlocks⟩
  have hl := lv_entry ([.int x0]) (n := 2) (Nat.le_of_ble_eq_true rfl)
  rw [lg_entry_eq]
  generalize (lg_sl ([.int x0]) ++ List.replicate (2 - (lg_sl ([.int x0])).length) Slot.unset).toArray = ls at hl ⊢
  have hl : lv_has ls 2 [(0, .int x0)] := hl
  have hw0 := hts (.constant RJ6 264 (65536)) (by decide +kernel)
  unfold fJ6_numberOfTrailingZeros_0f7a4 at h
  refine lv_iload_n hx hb dJ6_numberOfTrailingZeros_0f7a4_0 rfl (lv_at hl 0 rfl) ?_
  refine lv_iconst (v := -1) hx hb dJ6_numberOfTrailingZeros_0f7a4_1 (by decide) ?_
  refine lv_ixor hx hb dJ6_numberOfTrailingZeros_0f7a4_2 ?_
  refine lv_iload_n hx hb dJ6_numberOfTrailingZeros_0f7a4_3 rfl (lv_at hl 0 rfl) ?_
  refine lv_iconst (v := 1) hx hb dJ6_numberOfTrailingZeros_0f7a4_4 (by decide) ?_
  refine lv_isub hx hb dJ6_numberOfTrailingZeros_0f7a4_5 ?_
  refine lv_iand hx hb dJ6_numberOfTrailingZeros_0f7a4_6 ?_
  refine lv_topi (fun v1 ev1 => ?_)
  have h := nm_use ev1 h
  refine lv_istore_n (lv' := [(0, .int v1)]) hx hb dJ6_numberOfTrailingZeros_0f7a4_7 rfl hl (by decide) rfl (fun ls hl => ?_)
  refine lv_iload_n hx hb dJ6_numberOfTrailingZeros_0f7a4_8 rfl (lv_at hl 0 rfl) ?_
  refine lv_if_gt (tgt := 17) hx hb dJ6_numberOfTrailingZeros_0f7a4_9 (by decide) (fun c2 => ?_) (fun c2 => ?_)
  · have h := it_use c2 h
    refine lv_iconst (v := 1) hx hb dJ6_numberOfTrailingZeros_0f7a4_17 (by decide) ?_
    refine lv_istore_n (lv' := [(1, .int (1 : Int32)), (0, .int v1)]) hx hb dJ6_numberOfTrailingZeros_0f7a4_18 rfl hl (by decide) rfl (fun ls hl => ?_)
    refine lv_iload_n hx hb dJ6_numberOfTrailingZeros_0f7a4_19 rfl (lv_at hl 1 rfl) ?_
    refine lv_ldcw hx hb hown hw0 dJ6_numberOfTrailingZeros_0f7a4_20 ?_
    refine lv_icmp_le (tgt := 34) hx hb dJ6_numberOfTrailingZeros_0f7a4_23 (by decide) (fun c3 => ?_) (fun c3 => ?_)
    · have h := it_use c3 h
      exact kJ6_numberOfTrailingZeros_0f7a4_p34 C0 n  v1 (1 : Int32)  r0  _ _ ls h hS (lv_sub hl [1, 0] rfl)
    · have h := ie_use c3 h
      refine lv_iinc (v := (1 : Int32) + 16) (lv' := [(1, .int ((1 : Int32) + 16)), (0, .int v1)]) hx hb dJ6_numberOfTrailingZeros_0f7a4_26 hl (k := 0) rfl rfl (by decide) rfl (fun ls hl => ?_)
      refine lv_iload_n hx hb dJ6_numberOfTrailingZeros_0f7a4_29 rfl (lv_at hl 1 rfl) ?_
      refine lv_bipush (v := 16) hx hb dJ6_numberOfTrailingZeros_0f7a4_30 (by decide) ?_
      refine lv_iushr hx hb dJ6_numberOfTrailingZeros_0f7a4_32 rfl ?_
      refine lv_topi (fun v4 ev4 => ?_)
      have h := nm_use ev4 h
      refine lv_istore_n (lv' := [(0, .int v4), (1, .int ((1 : Int32) + 16))]) hx hb dJ6_numberOfTrailingZeros_0f7a4_33 rfl hl (by decide) rfl (fun ls hl => ?_)
      exact kJ6_numberOfTrailingZeros_0f7a4_p34 C0 n  v4 ((1 : Int32) + 16)  r0  _ _ ls h hS (lv_sub hl [0, 1] rfl)
  · have h := ie_use c2 h
    refine lv_iload_n hx hb dJ6_numberOfTrailingZeros_0f7a4_12 rfl (lv_at hl 0 rfl) ?_
    refine lv_bipush (v := 32) hx hb dJ6_numberOfTrailingZeros_0f7a4_13 (by decide) ?_
    refine lv_iand hx hb dJ6_numberOfTrailingZeros_0f7a4_15 ?_
    obtain er := rt1_use h
    exact rp_i hx hb hr hlocks hS er dJ6_numberOfTrailingZeros_0f7a4_16

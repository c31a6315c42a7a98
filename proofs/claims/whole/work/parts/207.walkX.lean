set_option maxHeartbeats 4000000 in
set_option maxRecDepth 100000 in
theorem kX7_tellAsk_D (l : Launch) (n : Nat) (dC : Nat → ClassId) (dI : Nat → Nat → Nat) (cB cI cJ cZ : ClassId) (a : Nat → Nat) (adK adV : Nat → Nat) (sz : Nat) (ww_latestFault : Int32) (tp_bytes : Nat → Int32) (tp_size : Int32) (rd_fault : Int32) (rd_faultPlace : Int32) (rd_kind : Int32) (rd_start : Int32) (rd_at : Int32) (rd_number : Int32) (dr_letterMarks : Nat → Int32) (dr_names : Nat → Int64) (dr_spelled : Nat → Int32) (dr_rows : Nat → Int64) (dr_alike : Nat → Int32) (dr_near : Nat → Int32) (dr_asks : Nat → Int32) (dr_letters : Int32) (dr_words : Int32) (dr_askCount : Int32) (sh_lanes : Nat → Int32) (sh_sizes : Nat → Int32) (sh_cells : Nat → Int32) (la_xs : Nat → Int32) (la_ys : Nat → Int32) (la_heights : Nat → Int32) (la_ridgeXs : Nat → Int32) (la_ridgeHeights : Nat → Int32) (la_way : Nat → Int32) (la_blurs : Nat → Int32) (la_steps : Nat → Int32) (la_places : Int32) (la_ridges : Int32) (la_wayBlur : Int32) (la_wayLength : Int32) (bk_times : Nat → Int32) (bk_froms : Nat → Int32) (bk_asks : Nat → Int32) (bk_words : Nat → Int32) (bk_firsts : Nat → Int32) (bk_lies : Nat → Int32) (bk_held : Nat → Int32) (bk_size : Int32) (nu_learned : Nat → Int32) (nu_size : Int32) (to_letterMarks : Nat → Int32) (to_names : Nat → Int64) (to_spelled : Nat → Int32) (to_rows : Nat → Int64) (to_alike : Nat → Int32) (to_near : Nat → Int32) (to_asks : Nat → Int32) (to_letters : Int32) (to_words : Int32) (to_askCount : Int32) (x1 : Int32) (z_dr_asks : Nat → Int32) (z_dr_askCount : Int32) (h : fX7_tellAsk n dr_asks dr_askCount x1 = some (z_dr_asks, z_dr_askCount)) : Met l yX7_tellAsk wsX7_tellAsk ({ frames := 0, cells := 0, slots := 0, locals := 0 }) (gP (dC, dI) (tyz cB cI cJ cZ) (E_X adK adV) (wX cB cI cJ cZ a (a 35) (a 4) ww_latestFault tp_bytes tp_size rd_fault rd_faultPlace rd_kind rd_start rd_at rd_number dr_letterMarks dr_names dr_spelled dr_rows dr_alike dr_near dr_asks dr_letters dr_words dr_askCount sh_lanes sh_sizes sh_cells la_xs la_ys la_heights la_ridgeXs la_ridgeHeights la_way la_blurs la_steps la_places la_ridges la_wayBlur la_wayLength bk_times bk_froms bk_asks bk_words bk_firsts bk_lies bk_held bk_size nu_learned nu_size to_letterMarks to_names to_spelled to_rows to_alike to_near to_asks to_letters to_words to_askCount) sz [.ref (a 4), .int x1]) (gV (dC, dI) (tyz cB cI cJ cZ) (wX cB cI cJ cZ a (a 35) (a 4) ww_latestFault tp_bytes tp_size rd_fault rd_faultPlace rd_kind rd_start rd_at rd_number dr_letterMarks dr_names dr_spelled dr_rows dr_alike dr_near z_dr_asks dr_letters dr_words z_dr_askCount sh_lanes sh_sizes sh_cells la_xs la_ys la_heights la_ridgeXs la_ridgeHeights la_way la_blurs la_steps la_places la_ridges la_wayBlur la_wayLength bk_times bk_froms bk_asks bk_words bk_firsts bk_lies bk_held bk_size nu_learned nu_size to_letterMarks to_names to_spelled to_rows to_alike to_near to_asks to_letters to_words to_askCount) (va_A (wX cB cI cJ cZ a (a 35) (a 4) ww_latestFault tp_bytes tp_size rd_fault rd_faultPlace rd_kind rd_start rd_at rd_number dr_letterMarks dr_names dr_spelled dr_rows dr_alike dr_near dr_asks dr_letters dr_words dr_askCount sh_lanes sh_sizes sh_cells la_xs la_ys la_heights la_ridgeXs la_ridgeHeights la_way la_blurs la_steps la_places la_ridges la_wayBlur la_wayLength bk_times bk_froms bk_asks bk_words bk_firsts bk_lies bk_held bk_size nu_learned nu_size to_letterMarks to_names to_spelled to_rows to_alike to_near to_asks to_letters to_words to_askCount) sz)) 0 0 (va_A (wX cB cI cJ cZ a (a 35) (a 4) ww_latestFault tp_bytes tp_size rd_fault rd_faultPlace rd_kind rd_start rd_at rd_number dr_letterMarks dr_names dr_spelled dr_rows dr_alike dr_near dr_asks dr_letters dr_words dr_askCount sh_lanes sh_sizes sh_cells la_xs la_ys la_heights la_ridgeXs la_ridgeHeights la_way la_blurs la_steps la_places la_ridges la_wayBlur la_wayLength bk_times bk_froms bk_asks bk_words bk_firsts bk_lies bk_held bk_size nu_learned nu_size to_letterMarks to_names to_spelled to_rows to_alike to_near to_asks to_letters to_words to_askCount) sz) := by
  refine Met.ofW (cc := cX7_tellAsk) (maxL := 2) (ret := none) (by decide) rfl ?_
  intro p e s m args below meth c s₁ B hml hv
  obtain ⟨rfl, hsz, hP, hK, hD0, hE⟩ := hv
  have hx := B.exec
  have hb := B.bytes
  have hr := B.returns
  have hts := atoms_spec (ws := wsX7_tellAsk) B.pre
  have hown : s.vm.findClass RX7 = some m.cls := findClass_of_methodNamed B.named
  have hlocks := B.notSynchronized
  subst hsz
  have hD := hD0.self (sz := s.heap.size)
  have hA : ∀ q : Nat, s.heap.size ≤ q → va_A (wX cB cI cJ cZ a (a 35) (a 4) ww_latestFault tp_bytes tp_size rd_fault rd_faultPlace rd_kind rd_start rd_at rd_number dr_letterMarks dr_names dr_spelled dr_rows dr_alike dr_near dr_asks dr_letters dr_words dr_askCount sh_lanes sh_sizes sh_cells la_xs la_ys la_heights la_ridgeXs la_ridgeHeights la_way la_blurs la_steps la_places la_ridges la_wayBlur la_wayLength bk_times bk_froms bk_asks bk_words bk_firsts bk_lies bk_held bk_size nu_learned nu_size to_letterMarks to_names to_spelled to_rows to_alike to_near to_asks to_letters to_words to_askCount) s.heap.size q := fun q h => Or.inr h
  generalize va_A (wX cB cI cJ cZ a (a 35) (a 4) ww_latestFault tp_bytes tp_size rd_fault rd_faultPlace rd_kind rd_start rd_at rd_number dr_letterMarks dr_names dr_spelled dr_rows dr_alike dr_near dr_asks dr_letters dr_words dr_askCount sh_lanes sh_sizes sh_cells la_xs la_ys la_heights la_ridgeXs la_ridgeHeights la_way la_blurs la_steps la_places la_ridges la_wayBlur la_wayLength bk_times bk_froms bk_asks bk_words bk_firsts bk_lies bk_held bk_size nu_learned nu_size to_letterMarks to_names to_spelled to_rows to_alike to_near to_asks to_letters to_words to_askCount) s.heap.size = A at hD hA hE ⊢
  have hS : va_S A s.heap s.heap [] := va_S.rf
  have C0 : cxt cX7_tellAsk none 2 RX7 wsX7_tellAsk (dC, dI) (tyz cB cI cJ cZ) (E_X adK adV) A p s m ([.ref (a 4), .int x1] : List Value).toArray meth c := ⟨hx, hb, hr, hml, hown, hts, hlocks, hK, hA, hE⟩
  have hl := lv_entry ([.ref (a 4), .int x1]) (n := 2) (Nat.le_of_ble_eq_true rfl)
  rw [lg_entry_eq]
  generalize (lg_sl ([.ref (a 4), .int x1]) ++ List.replicate (2 - (lg_sl ([.ref (a 4), .int x1])).length) Slot.unset).toArray = ls at hl ⊢
  have hl : lv_has ls 2 [(0, .ref (a 4)), (1, .int x1)] := hl
  have hw0 := hts (.fieldLink RX7 37 "WhistledWords$Tongue" "asks" "[I") (by decide +kernel)
  have hw1 := hts (.fieldLink RX7 47 "WhistledWords$Tongue" "askCount" "I") (by decide +kernel)
  have hnX7 : ∀ w ∈ u_ws RX7 TX7 10, w ∈ wsX7_tellAsk := fun _ h => List.mem_cons_of_mem _ (List.mem_append_right _ h)
  unfold fX7_tellAsk at h
  refine lv_aload_n hx hb dX7_tellAsk_0 rfl (lv_at hl 0 rfl) ?_
  refine gX_draft_asks hx hb hts hnX7 hown hK hP hw0 dX7_tellAsk_1 ?_
  refine lv_aload_n hx hb dX7_tellAsk_4 rfl (lv_at hl 0 rfl) ?_
  refine gX_draft_askCount hx hb hts hnX7 hown hK hP hw1 dX7_tellAsk_5 ?_
  refine lv_iload_n hx hb dX7_tellAsk_8 rfl (lv_at hl 1 rfl) ?_
  obtain ⟨hif1, f1, ef1, h⟩ := aw_use h
  refine sX_draft_asks hx hb hK hP hD hS hif1 ef1 dX7_tellAsk_9 (fun H locs hP hD hS => ?_)
  refine lv_aload_n hx hb dX7_tellAsk_10 rfl (lv_at hl 0 rfl) ?_
  refine lv_dup hx hb dX7_tellAsk_11 rfl ?_
  refine gX_draft_askCount hx hb hts hnX7 hown hK hP hw1 dX7_tellAsk_12 ?_
  refine lv_iconst (v := 1) hx hb dX7_tellAsk_15 (by decide) ?_
  refine lv_iadd hx hb dX7_tellAsk_16 ?_
  refine lv_topi (fun v2 ev2 => ?_)
  have h := nm_use ev2 h
  refine pX_draft_askCount hx hb hts hnX7 hown hK hP hD hS hw1 dX7_tellAsk_17 (fun H locs hP hD hS => ?_)
  obtain ⟨ez0, ez1⟩ := rt2_use h
  subst ez0
  subst ez1
  exact re_v hx hb hr hlocks hK hP hD hS dX7_tellAsk_20
set_option maxHeartbeats 4000000 in
set_option maxRecDepth 100000 in
theorem kX6_readAsk_p23_r {p : Program} {l : Launch} {e : Env} {s : State} {m : MethodId} {args : Array Value} {below : List Frame} {meth : Method} {c : Code} {A : Nat → Prop} (dC : Nat → ClassId) (dI : Nat → Nat → Nat) (cB cI cJ cZ : ClassId) (a : Nat → Nat) (adK adV : Nat → Nat) (C0 : cxt cX6_readAsk (some .boolean) 3 RX6 wsX6_readAsk (dC, dI) (tyz cB cI cJ cZ) (E_X adK adV) A p s m args meth c) (n : Nat) (ww_latestFault : Int32) (tp_bytes : Nat → Int32) (tp_size : Int32) (dr_letterMarks : Nat → Int32) (dr_names : Nat → Int64) (dr_spelled : Nat → Int32) (dr_rows : Nat → Int64) (dr_alike : Nat → Int32) (dr_near : Nat → Int32) (dr_asks : Nat → Int32) (dr_letters : Int32) (dr_words : Int32) (dr_askCount : Int32) (sh_lanes : Nat → Int32) (sh_sizes : Nat → Int32) (sh_cells : Nat → Int32) (la_xs : Nat → Int32) (la_ys : Nat → Int32) (la_heights : Nat → Int32) (la_ridgeXs : Nat → Int32) (la_ridgeHeights : Nat → Int32) (la_way : Nat → Int32) (la_blurs : Nat → Int32) (la_steps : Nat → Int32) (la_places : Int32) (la_ridges : Int32) (la_wayBlur : Int32) (la_wayLength : Int32) (bk_times : Nat → Int32) (bk_froms : Nat → Int32) (bk_asks : Nat → Int32) (bk_words : Nat → Int32) (bk_firsts : Nat → Int32) (bk_lies : Nat → Int32) (bk_held : Nat → Int32) (bk_size : Int32) (nu_learned : Nat → Int32) (nu_size : Int32) (to_letterMarks : Nat → Int32) (to_names : Nat → Int64) (to_spelled : Nat → Int32) (to_rows : Nat → Int64) (to_alike : Nat → Int32) (to_near : Nat → Int32) (to_asks : Nat → Int32) (to_letters : Int32) (to_words : Int32) (to_askCount : Int32)  (r0 : Int32) (z_rd_fault : Int32) (z_rd_faultPlace : Int32) (z_rd_kind : Int32) (z_rd_start : Int32) (z_rd_at : Int32) (z_rd_number : Int32) (z_dr_asks : Nat → Int32) (z_dr_askCount : Int32)  : ∀ (k : Nat) (rd_fault : Int32) (rd_faultPlace : Int32) (rd_kind : Int32) (rd_start : Int32) (rd_at : Int32) (rd_number : Int32) (x1 : Int32) (x2 : Int32) (H : Heap) (locs : List Loc) (ls : Array Slot), fX6_readAsk_p23 n tp_bytes tp_size dr_asks dr_words dr_askCount k rd_fault rd_faultPlace rd_kind rd_start rd_at rd_number x1 x2 = some (r0, z_rd_fault, z_rd_faultPlace, z_rd_kind, z_rd_start, z_rd_at, z_rd_number, z_dr_asks, z_dr_askCount) → va_P (dC, dI) vwCl (wX cB cI cJ cZ a (a 35) (a 4) ww_latestFault tp_bytes tp_size rd_fault rd_faultPlace rd_kind rd_start rd_at rd_number dr_letterMarks dr_names dr_spelled dr_rows dr_alike dr_near dr_asks dr_letters dr_words dr_askCount sh_lanes sh_sizes sh_cells la_xs la_ys la_heights la_ridgeXs la_ridgeHeights la_way la_blurs la_steps la_places la_ridges la_wayBlur la_wayLength bk_times bk_froms bk_asks bk_words bk_firsts bk_lies bk_held bk_size nu_learned nu_size to_letterMarks to_names to_spelled to_rows to_alike to_near to_asks to_letters to_words to_askCount) H → va_D A (wX cB cI cJ cZ a (a 35) (a 4) ww_latestFault tp_bytes tp_size rd_fault rd_faultPlace rd_kind rd_start rd_at rd_number dr_letterMarks dr_names dr_spelled dr_rows dr_alike dr_near dr_asks dr_letters dr_words dr_askCount sh_lanes sh_sizes sh_cells la_xs la_ys la_heights la_ridgeXs la_ridgeHeights la_way la_blurs la_steps la_places la_ridges la_wayBlur la_wayLength bk_times bk_froms bk_asks bk_words bk_firsts bk_lies bk_held bk_size nu_learned nu_size to_letterMarks to_names to_spelled to_rows to_alike to_near to_asks to_letters to_words to_askCount) → va_S A s.heap H locs → lv_has ls 3 [(0, .ref (a 3)), (1, .int x1), (2, .int x2)] → W p l e { frames := 2, cells := 0, slots := 0, locals := 42 } s m args below meth c H locs 0 0 (MQ below (gI (dC, dI) (tyz cB cI cJ cZ) (wX cB cI cJ cZ a (a 35) (a 4) ww_latestFault tp_bytes tp_size z_rd_fault z_rd_faultPlace z_rd_kind z_rd_start z_rd_at z_rd_number dr_letterMarks dr_names dr_spelled dr_rows dr_alike dr_near z_dr_asks dr_letters dr_words z_dr_askCount sh_lanes sh_sizes sh_cells la_xs la_ys la_heights la_ridgeXs la_ridgeHeights la_way la_blurs la_steps la_places la_ridges la_wayBlur la_wayLength bk_times bk_froms bk_asks bk_words bk_firsts bk_lies bk_held bk_size nu_learned nu_size to_letterMarks to_names to_spelled to_rows to_alike to_near to_asks to_letters to_words to_askCount) A r0) args s 0 0 A) (F0 m 23 ls []) := by
  obtain ⟨hx, hb, hr, hml, hown, hts, hlocks, hK, hA, hE⟩ := id C0
  have hw0 := hts (.fieldLink RX6 18 "WhistledWords$TextReader" "draft" "LWhistledWords$Tongue;") (by decide +kernel)
  have hw1 := hts (.fieldLink RX6 95 "WhistledWords$TextReader" "number" "I") (by decide +kernel)
  have hw2 := hts (.initialized RX8) (by decide +kernel)
  have hw3 := hts (.static yX8_isIn) (by decide +kernel)
  have hw4 := hts (.fieldLink RX6 40 "WhistledWords$TextReader" "kind" "I") (by decide +kernel)
  have hnX6 : ∀ w ∈ u_ws RX6 TX6 8, w ∈ wsX6_readAsk := fun _ h => List.mem_cons_of_mem _ (List.mem_append_left _ (List.mem_append_left _ (List.mem_append_right _ h)))
  intro k
  induction k with
  | zero =>
    intro rd_fault rd_faultPlace rd_kind rd_start rd_at rd_number x1 x2 H locs ls h
    cases h
  | succ k ih =>
    intro rd_fault rd_faultPlace rd_kind rd_start rd_at rd_number x1 x2 H locs ls h hP hD hS hl
    rw [fX6_readAsk_p23] at h
    refine lv_iload_n hx hb dX6_readAsk_23 rfl (lv_at hl 2 rfl) ?_
    refine lv_bipush (v := 16) hx hb dX6_readAsk_24 (by decide) ?_
    refine lv_icmp_gt (tgt := 121) hx hb dX6_readAsk_26 (by decide) (fun c1 => ?_) (fun c1 => ?_)
    · have h := it_use c1 h
      refine lv_aload_n hx hb dX6_readAsk_121 rfl (lv_at hl 0 rfl) ?_
      refine lv_iconst (v := 3) hx hb dX6_readAsk_122 (by decide) ?_
      obtain ⟨v2, v3, v4, hc, h⟩ := bd3_use h
      refine cv_i (As := [.int (3 : Int32)]) (rest := []) ⟨hx, hb, hml, hown, hts⟩ (kX6_refuse l n dC dI cB cI cJ cZ a adK adV _ ww_latestFault tp_bytes tp_size rd_fault rd_faultPlace rd_kind rd_start rd_at rd_number dr_letterMarks dr_names dr_spelled dr_rows dr_alike dr_near dr_asks dr_letters dr_words dr_askCount sh_lanes sh_sizes sh_cells la_xs la_ys la_heights la_ridgeXs la_ridgeHeights la_way la_blurs la_steps la_places la_ridges la_wayBlur la_wayLength bk_times bk_froms bk_asks bk_words bk_firsts bk_lies bk_held bk_size nu_learned nu_size to_letterMarks to_names to_spelled to_rows to_alike to_near to_asks to_letters to_words to_askCount (3 : Int32) v2 v3 v4 hc) (cwV 1 hts gX6_readAsk_X6_refuse rfl rfl rfl (by decide +kernel) ⟨Nat.le_of_ble_eq_true rfl, Nat.le_of_ble_eq_true rfl⟩) EB_X hE hK hP hD hS hA 3 (ci := 5) rfl rfl rfl rfl hl.1 rfl (Nat.le_of_ble_eq_true rfl) dX6_readAsk_123 ⟨Nat.zero_le _, Nat.zero_le _⟩ (fun H locs hP hD hS => ?_)
      obtain ⟨hzb, h⟩ := rb_use h
      obtain ⟨er, ez0, ez1, ez2, ez3, ez4, ez5, ez6, ez7⟩ := rt9_use h
      subst ez0
      subst ez1
      subst ez2
      subst ez3
      subst ez4
      subst ez5
      subst ez6
      subst ez7
      exact re_z hx hb hr hlocks hK hP hD hS hzb er dX6_readAsk_126
    · have h := ie_use c1 h
      refine lv_aload_n hx hb dX6_readAsk_29 rfl (lv_at hl 0 rfl) ?_
      refine lv_iconst (v := 2) hx hb dX6_readAsk_30 (by decide) ?_
      obtain ⟨v5, v6, v7, v8, v9, v10, v11, hc, h⟩ := bd7_use h
      refine cv_i (As := [.int (2 : Int32)]) (rest := []) ⟨hx, hb, hml, hown, hts⟩ (kX6_expect l n dC dI cB cI cJ cZ a adK adV _ ww_latestFault tp_bytes tp_size rd_fault rd_faultPlace rd_kind rd_start rd_at rd_number dr_letterMarks dr_names dr_spelled dr_rows dr_alike dr_near dr_asks dr_letters dr_words dr_askCount sh_lanes sh_sizes sh_cells la_xs la_ys la_heights la_ridgeXs la_ridgeHeights la_way la_blurs la_steps la_places la_ridges la_wayBlur la_wayLength bk_times bk_froms bk_asks bk_words bk_firsts bk_lies bk_held bk_size nu_learned nu_size to_letterMarks to_names to_spelled to_rows to_alike to_near to_asks to_letters to_words to_askCount (2 : Int32) v5 v6 v7 v8 v9 v10 v11 hc) (cwV 1 hts gX6_readAsk_X6_expect rfl rfl rfl (by decide +kernel) ⟨Nat.le_of_ble_eq_true rfl, Nat.le_of_ble_eq_true rfl⟩) EB_X hE hK hP hD hS hA 3 (ci := 5) rfl rfl rfl rfl hl.1 rfl (Nat.le_of_ble_eq_true rfl) dX6_readAsk_31 ⟨Nat.zero_le _, Nat.zero_le _⟩ (fun H locs hP hD hS => ?_)
      refine lv_if_ne (tgt := 39) hx hb dX6_readAsk_34 (by decide) (fun c12 => ?_) (fun c12 => ?_)
      · have h := ie_use c12 h
        refine lv_aload_n hx hb dX6_readAsk_39 rfl (lv_at hl 0 rfl) ?_
        refine gX_reader_draft hx hb hts hnX6 hown hK hP hw0 dX6_readAsk_40 ?_
        refine lv_aload_n hx hb dX6_readAsk_43 rfl (lv_at hl 0 rfl) ?_
        refine gX_reader_number hx hb hts hnX6 hown hK hP hw1 dX6_readAsk_44 ?_
        obtain ⟨v13, hc, h⟩ := bd1_use h
        refine cv_i (As := [.int v11]) (rest := []) ⟨hx, hb, hml, hown, hts⟩ (kX7_isWord_D l n dC dI cB cI cJ cZ a adK adV _ ww_latestFault tp_bytes tp_size v6 v7 v8 v9 v10 v11 dr_letterMarks dr_names dr_spelled dr_rows dr_alike dr_near dr_asks dr_letters dr_words dr_askCount sh_lanes sh_sizes sh_cells la_xs la_ys la_heights la_ridgeXs la_ridgeHeights la_way la_blurs la_steps la_places la_ridges la_wayBlur la_wayLength bk_times bk_froms bk_asks bk_words bk_firsts bk_lies bk_held bk_size nu_learned nu_size to_letterMarks to_names to_spelled to_rows to_alike to_near to_asks to_letters to_words to_askCount v11 v13 hc) (cwV 1 hts gX6_readAsk_X7_isWord rfl rfl rfl (by decide +kernel) ⟨Nat.le_of_ble_eq_true rfl, Nat.le_of_ble_eq_true rfl⟩) EB_X hE hK hP hD hS hA 4 (ci := 6) rfl rfl rfl rfl hl.1 rfl (Nat.le_of_ble_eq_true rfl) dX6_readAsk_47 ⟨Nat.zero_le _, Nat.zero_le _⟩ (fun H locs hP hD hS => ?_)
        refine lv_if_eq (tgt := 64) hx hb dX6_readAsk_50 (by decide) (fun c14 => ?_) (fun c14 => ?_)
        · have h := it_use c14 h
          refine lv_aload_n hx hb dX6_readAsk_64 rfl (lv_at hl 0 rfl) ?_
          refine lv_iconst (v := 3) hx hb dX6_readAsk_65 (by decide) ?_
          obtain ⟨v15, v16, v17, hc, h⟩ := bd3_use h
          refine cv_i (As := [.int (3 : Int32)]) (rest := []) ⟨hx, hb, hml, hown, hts⟩ (kX6_refuse l n dC dI cB cI cJ cZ a adK adV _ ww_latestFault tp_bytes tp_size v6 v7 v8 v9 v10 v11 dr_letterMarks dr_names dr_spelled dr_rows dr_alike dr_near dr_asks dr_letters dr_words dr_askCount sh_lanes sh_sizes sh_cells la_xs la_ys la_heights la_ridgeXs la_ridgeHeights la_way la_blurs la_steps la_places la_ridges la_wayBlur la_wayLength bk_times bk_froms bk_asks bk_words bk_firsts bk_lies bk_held bk_size nu_learned nu_size to_letterMarks to_names to_spelled to_rows to_alike to_near to_asks to_letters to_words to_askCount (3 : Int32) v15 v16 v17 hc) (cwV 1 hts gX6_readAsk_X6_refuse rfl rfl rfl (by decide +kernel) ⟨Nat.le_of_ble_eq_true rfl, Nat.le_of_ble_eq_true rfl⟩) EB_X hE hK hP hD hS hA 3 (ci := 5) rfl rfl rfl rfl hl.1 rfl (Nat.le_of_ble_eq_true rfl) dX6_readAsk_66 ⟨Nat.zero_le _, Nat.zero_le _⟩ (fun H locs hP hD hS => ?_)
          obtain ⟨hzb, h⟩ := rb_use h
          obtain ⟨er, ez0, ez1, ez2, ez3, ez4, ez5, ez6, ez7⟩ := rt9_use h
          subst ez0
          subst ez1
          subst ez2
          subst ez3
          subst ez4
          subst ez5
          subst ez6
          subst ez7
          exact re_z hx hb hr hlocks hK hP hD hS hzb er dX6_readAsk_69
        · have h := ie_use c14 h
          refine lv_iload_n hx hb dX6_readAsk_53 rfl (lv_at hl 1 rfl) ?_
          refine lv_aload_n hx hb dX6_readAsk_54 rfl (lv_at hl 0 rfl) ?_
          refine gX_reader_number hx hb hts hnX6 hown hK hP hw1 dX6_readAsk_55 ?_
          obtain ⟨v18, hc, h⟩ := bd1_use h
          refine cn_i (As := [.int x1, .int v11]) (rest := []) ⟨hx, hb, hml, hown, hts⟩ (kX8_isIn l n x1 v11 v18 hc) ⟨va_cnB 2 hts ggX6_readAsk_X8_isIn rfl rfl rfl (hE.1.2.1) hw2 (by decide +kernel) ⟨Nat.le_of_ble_eq_true rfl, Nat.le_of_ble_eq_true rfl⟩, hw3, trivial⟩ hP hS rfl hl.1 rfl (Nat.le_of_ble_eq_true rfl) dX6_readAsk_58 ⟨Nat.zero_le _, Nat.zero_le _⟩ (fun H locs hP hS => ?_)
          refine lv_if_eq (tgt := 70) hx hb dX6_readAsk_61 (by decide) (fun c19 => ?_) (fun c19 => ?_)
          · have h := it_use c19 h
            refine lv_iload_n hx hb dX6_readAsk_70 rfl (lv_at hl 1 rfl) ?_
            refine lv_iconst (v := 1) hx hb dX6_readAsk_71 (by decide) ?_
            refine lv_aload_n hx hb dX6_readAsk_72 rfl (lv_at hl 0 rfl) ?_
            refine gX_reader_number hx hb hts hnX6 hown hK hP hw1 dX6_readAsk_73 ?_
            refine lv_ishl hx hb dX6_readAsk_76 ?_
            refine lv_ior hx hb dX6_readAsk_77 ?_
            refine lv_topi (fun v20 ev20 => ?_)
            have h := nm_use ev20 h
            refine lv_istore_n (lv' := [(1, .int v20), (0, .ref (a 3)), (2, .int x2)]) hx hb dX6_readAsk_78 rfl hl (by decide) rfl (fun ls hl => ?_)
            refine lv_aload_n hx hb dX6_readAsk_79 rfl (lv_at hl 1 rfl) ?_
            obtain ⟨v21, v22, v23, v24, hc, h⟩ := bd4_use h
            refine cv_v (As := []) (rest := []) ⟨hx, hb, hml, hown, hts⟩ (kX6_readToken l n dC dI cB cI cJ cZ a adK adV _ ww_latestFault tp_bytes tp_size v6 v7 v8 v9 v10 v11 dr_letterMarks dr_names dr_spelled dr_rows dr_alike dr_near dr_asks dr_letters dr_words dr_askCount sh_lanes sh_sizes sh_cells la_xs la_ys la_heights la_ridgeXs la_ridgeHeights la_way la_blurs la_steps la_places la_ridges la_wayBlur la_wayLength bk_times bk_froms bk_asks bk_words bk_firsts bk_lies bk_held bk_size nu_learned nu_size to_letterMarks to_names to_spelled to_rows to_alike to_near to_asks to_letters to_words to_askCount  v21 v22 v23 v24 hc) (cwV 0 hts gX6_readAsk_X6_readToken rfl rfl rfl (by decide +kernel) ⟨Nat.le_of_ble_eq_true rfl, Nat.le_of_ble_eq_true rfl⟩) EB_X hE hK hP hD hS hA 3 (ci := 5) rfl rfl rfl rfl hl.1 rfl (Nat.le_of_ble_eq_true rfl) dX6_readAsk_80 ⟨Nat.zero_le _, Nat.zero_le _⟩ (fun H locs hP hD hS => ?_)
            refine lv_aload_n hx hb dX6_readAsk_83 rfl (lv_at hl 1 rfl) ?_
            refine gX_reader_kind hx hb hts hnX6 hown hK hP hw4 dX6_readAsk_84 ?_
            refine lv_iconst (v := 3) hx hb dX6_readAsk_87 (by decide) ?_
            refine lv_icmp_ne (tgt := 101) hx hb dX6_readAsk_88 (by decide) (fun c25 => ?_) (fun c25 => ?_)
            · have h := ie_use c25 h
              refine lv_aload_n hx hb dX6_readAsk_101 rfl (lv_at hl 1 rfl) ?_
              refine gX_reader_kind hx hb hts hnX6 hown hK hP hw4 dX6_readAsk_102 ?_
              refine lv_iconst (v := 4) hx hb dX6_readAsk_105 (by decide) ?_
              refine lv_icmp_eq (tgt := 115) hx hb dX6_readAsk_106 (by decide) (fun c26 => ?_) (fun c26 => ?_)
              · have h := it_use c26 h
                refine lv_iinc (v := x2 + 1) (lv' := [(2, .int (x2 + 1)), (1, .int v20), (0, .ref (a 3))]) hx hb dX6_readAsk_115 hl (k := 2) rfl rfl (by decide) rfl (fun ls hl => ?_)
                refine lv_goto (tgt := 23) hx hb dX6_readAsk_118 (by decide) ?_
                exact ih v6 v7 v21 v22 v23 v24 v20 (x2 + 1) _ _ ls h hP hD hS (lv_sub hl [2, 1, 0] rfl)
              · have h := ie_use c26 h
                refine lv_aload_n hx hb dX6_readAsk_109 rfl (lv_at hl 1 rfl) ?_
                refine lv_iconst (v := 2) hx hb dX6_readAsk_110 (by decide) ?_
                obtain ⟨v27, v28, v29, hc, h⟩ := bd3_use h
                refine cv_i (As := [.int (2 : Int32)]) (rest := []) ⟨hx, hb, hml, hown, hts⟩ (kX6_refuse l n dC dI cB cI cJ cZ a adK adV _ ww_latestFault tp_bytes tp_size v6 v7 v21 v22 v23 v24 dr_letterMarks dr_names dr_spelled dr_rows dr_alike dr_near dr_asks dr_letters dr_words dr_askCount sh_lanes sh_sizes sh_cells la_xs la_ys la_heights la_ridgeXs la_ridgeHeights la_way la_blurs la_steps la_places la_ridges la_wayBlur la_wayLength bk_times bk_froms bk_asks bk_words bk_firsts bk_lies bk_held bk_size nu_learned nu_size to_letterMarks to_names to_spelled to_rows to_alike to_near to_asks to_letters to_words to_askCount (2 : Int32) v27 v28 v29 hc) (cwV 1 hts gX6_readAsk_X6_refuse rfl rfl rfl (by decide +kernel) ⟨Nat.le_of_ble_eq_true rfl, Nat.le_of_ble_eq_true rfl⟩) EB_X hE hK hP hD hS hA 3 (ci := 5) rfl rfl rfl rfl hl.1 rfl (Nat.le_of_ble_eq_true rfl) dX6_readAsk_111 ⟨Nat.zero_le _, Nat.zero_le _⟩ (fun H locs hP hD hS => ?_)
                obtain ⟨hzb, h⟩ := rb_use h
                obtain ⟨er, ez0, ez1, ez2, ez3, ez4, ez5, ez6, ez7⟩ := rt9_use h
                subst ez0
                subst ez1
                subst ez2
                subst ez3
                subst ez4
                subst ez5
                subst ez6
                subst ez7
                exact re_z hx hb hr hlocks hK hP hD hS hzb er dX6_readAsk_114
            · have h := it_use c25 h
              refine lv_aload_n hx hb dX6_readAsk_91 rfl (lv_at hl 1 rfl) ?_
              refine gX_reader_draft hx hb hts hnX6 hown hK hP hw0 dX6_readAsk_92 ?_
              refine lv_iload_n hx hb dX6_readAsk_95 rfl (lv_at hl 0 rfl) ?_
              obtain ⟨f30, v31, hc, h⟩ := bd2_use h
              refine cv_v (As := [.int v20]) (rest := []) ⟨hx, hb, hml, hown, hts⟩ (kX7_tellAsk_D l n dC dI cB cI cJ cZ a adK adV _ ww_latestFault tp_bytes tp_size v6 v7 v21 v22 v23 v24 dr_letterMarks dr_names dr_spelled dr_rows dr_alike dr_near dr_asks dr_letters dr_words dr_askCount sh_lanes sh_sizes sh_cells la_xs la_ys la_heights la_ridgeXs la_ridgeHeights la_way la_blurs la_steps la_places la_ridges la_wayBlur la_wayLength bk_times bk_froms bk_asks bk_words bk_firsts bk_lies bk_held bk_size nu_learned nu_size to_letterMarks to_names to_spelled to_rows to_alike to_near to_asks to_letters to_words to_askCount v20 f30 v31 hc) (cwV 1 hts gX6_readAsk_X7_tellAsk rfl rfl rfl (by decide +kernel) ⟨Nat.le_of_ble_eq_true rfl, Nat.le_of_ble_eq_true rfl⟩) EB_X hE hK hP hD hS hA 4 (ci := 6) rfl rfl rfl rfl hl.1 rfl (Nat.le_of_ble_eq_true rfl) dX6_readAsk_96 ⟨Nat.zero_le _, Nat.zero_le _⟩ (fun H locs hP hD hS => ?_)
              refine lv_iconst (v := 1) hx hb dX6_readAsk_99 (by decide) ?_
              obtain ⟨er, ez0, ez1, ez2, ez3, ez4, ez5, ez6, ez7⟩ := rt9_use h
              subst ez0
              subst ez1
              subst ez2
              subst ez3
              subst ez4
              subst ez5
              subst ez6
              subst ez7
              exact re_z hx hb hr hlocks hK hP hD hS (Or.inr rfl) er dX6_readAsk_100
          · have h := ie_use c19 h
            refine lv_aload_n hx hb dX6_readAsk_64 rfl (lv_at hl 0 rfl) ?_
            refine lv_iconst (v := 3) hx hb dX6_readAsk_65 (by decide) ?_
            obtain ⟨v32, v33, v34, hc, h⟩ := bd3_use h
            refine cv_i (As := [.int (3 : Int32)]) (rest := []) ⟨hx, hb, hml, hown, hts⟩ (kX6_refuse l n dC dI cB cI cJ cZ a adK adV _ ww_latestFault tp_bytes tp_size v6 v7 v8 v9 v10 v11 dr_letterMarks dr_names dr_spelled dr_rows dr_alike dr_near dr_asks dr_letters dr_words dr_askCount sh_lanes sh_sizes sh_cells la_xs la_ys la_heights la_ridgeXs la_ridgeHeights la_way la_blurs la_steps la_places la_ridges la_wayBlur la_wayLength bk_times bk_froms bk_asks bk_words bk_firsts bk_lies bk_held bk_size nu_learned nu_size to_letterMarks to_names to_spelled to_rows to_alike to_near to_asks to_letters to_words to_askCount (3 : Int32) v32 v33 v34 hc) (cwV 1 hts gX6_readAsk_X6_refuse rfl rfl rfl (by decide +kernel) ⟨Nat.le_of_ble_eq_true rfl, Nat.le_of_ble_eq_true rfl⟩) EB_X hE hK hP hD hS hA 3 (ci := 5) rfl rfl rfl rfl hl.1 rfl (Nat.le_of_ble_eq_true rfl) dX6_readAsk_66 ⟨Nat.zero_le _, Nat.zero_le _⟩ (fun H locs hP hD hS => ?_)
            obtain ⟨hzb, h⟩ := rb_use h
            obtain ⟨er, ez0, ez1, ez2, ez3, ez4, ez5, ez6, ez7⟩ := rt9_use h
            subst ez0
            subst ez1
            subst ez2
            subst ez3
            subst ez4
            subst ez5
            subst ez6
            subst ez7
            exact re_z hx hb hr hlocks hK hP hD hS hzb er dX6_readAsk_69
      · have h := it_use c12 h
        refine lv_iconst (v := 0) hx hb dX6_readAsk_37 (by decide) ?_
        obtain ⟨er, ez0, ez1, ez2, ez3, ez4, ez5, ez6, ez7⟩ := rt9_use h
        subst ez0
        subst ez1
        subst ez2
        subst ez3
        subst ez4
        subst ez5
        subst ez6
        subst ez7
        exact re_z hx hb hr hlocks hK hP hD hS (Or.inl rfl) er dX6_readAsk_38
theorem kX6_readAsk_p23 {p : Program} {l : Launch} {e : Env} {s : State} {m : MethodId} {args : Array Value} {below : List Frame} {meth : Method} {c : Code} {A : Nat → Prop} (dC : Nat → ClassId) (dI : Nat → Nat → Nat) (cB cI cJ cZ : ClassId) (a : Nat → Nat) (adK adV : Nat → Nat) (C0 : cxt cX6_readAsk (some .boolean) 3 RX6 wsX6_readAsk (dC, dI) (tyz cB cI cJ cZ) (E_X adK adV) A p s m args meth c) (n : Nat) (ww_latestFault : Int32) (tp_bytes : Nat → Int32) (tp_size : Int32) (rd_fault : Int32) (rd_faultPlace : Int32) (rd_kind : Int32) (rd_start : Int32) (rd_at : Int32) (rd_number : Int32) (dr_letterMarks : Nat → Int32) (dr_names : Nat → Int64) (dr_spelled : Nat → Int32) (dr_rows : Nat → Int64) (dr_alike : Nat → Int32) (dr_near : Nat → Int32) (dr_asks : Nat → Int32) (dr_letters : Int32) (dr_words : Int32) (dr_askCount : Int32) (sh_lanes : Nat → Int32) (sh_sizes : Nat → Int32) (sh_cells : Nat → Int32) (la_xs : Nat → Int32) (la_ys : Nat → Int32) (la_heights : Nat → Int32) (la_ridgeXs : Nat → Int32) (la_ridgeHeights : Nat → Int32) (la_way : Nat → Int32) (la_blurs : Nat → Int32) (la_steps : Nat → Int32) (la_places : Int32) (la_ridges : Int32) (la_wayBlur : Int32) (la_wayLength : Int32) (bk_times : Nat → Int32) (bk_froms : Nat → Int32) (bk_asks : Nat → Int32) (bk_words : Nat → Int32) (bk_firsts : Nat → Int32) (bk_lies : Nat → Int32) (bk_held : Nat → Int32) (bk_size : Int32) (nu_learned : Nat → Int32) (nu_size : Int32) (to_letterMarks : Nat → Int32) (to_names : Nat → Int64) (to_spelled : Nat → Int32) (to_rows : Nat → Int64) (to_alike : Nat → Int32) (to_near : Nat → Int32) (to_asks : Nat → Int32) (to_letters : Int32) (to_words : Int32) (to_askCount : Int32)  (x1 : Int32) (x2 : Int32) (r0 : Int32) (z_rd_fault : Int32) (z_rd_faultPlace : Int32) (z_rd_kind : Int32) (z_rd_start : Int32) (z_rd_at : Int32) (z_rd_number : Int32) (z_dr_asks : Nat → Int32) (z_dr_askCount : Int32)  (k : Nat) (H : Heap) (locs : List Loc) (ls : Array Slot) : fX6_readAsk_p23 n tp_bytes tp_size dr_asks dr_words dr_askCount k rd_fault rd_faultPlace rd_kind rd_start rd_at rd_number x1 x2 = some (r0, z_rd_fault, z_rd_faultPlace, z_rd_kind, z_rd_start, z_rd_at, z_rd_number, z_dr_asks, z_dr_askCount) → va_P (dC, dI) vwCl (wX cB cI cJ cZ a (a 35) (a 4) ww_latestFault tp_bytes tp_size rd_fault rd_faultPlace rd_kind rd_start rd_at rd_number dr_letterMarks dr_names dr_spelled dr_rows dr_alike dr_near dr_asks dr_letters dr_words dr_askCount sh_lanes sh_sizes sh_cells la_xs la_ys la_heights la_ridgeXs la_ridgeHeights la_way la_blurs la_steps la_places la_ridges la_wayBlur la_wayLength bk_times bk_froms bk_asks bk_words bk_firsts bk_lies bk_held bk_size nu_learned nu_size to_letterMarks to_names to_spelled to_rows to_alike to_near to_asks to_letters to_words to_askCount) H → va_D A (wX cB cI cJ cZ a (a 35) (a 4) ww_latestFault tp_bytes tp_size rd_fault rd_faultPlace rd_kind rd_start rd_at rd_number dr_letterMarks dr_names dr_spelled dr_rows dr_alike dr_near dr_asks dr_letters dr_words dr_askCount sh_lanes sh_sizes sh_cells la_xs la_ys la_heights la_ridgeXs la_ridgeHeights la_way la_blurs la_steps la_places la_ridges la_wayBlur la_wayLength bk_times bk_froms bk_asks bk_words bk_firsts bk_lies bk_held bk_size nu_learned nu_size to_letterMarks to_names to_spelled to_rows to_alike to_near to_asks to_letters to_words to_askCount) → va_S A s.heap H locs → lv_has ls 3 [(0, .ref (a 3)), (1, .int x1), (2, .int x2)] → W p l e { frames := 2, cells := 0, slots := 0, locals := 42 } s m args below meth c H locs 0 0 (MQ below (gI (dC, dI) (tyz cB cI cJ cZ) (wX cB cI cJ cZ a (a 35) (a 4) ww_latestFault tp_bytes tp_size z_rd_fault z_rd_faultPlace z_rd_kind z_rd_start z_rd_at z_rd_number dr_letterMarks dr_names dr_spelled dr_rows dr_alike dr_near z_dr_asks dr_letters dr_words z_dr_askCount sh_lanes sh_sizes sh_cells la_xs la_ys la_heights la_ridgeXs la_ridgeHeights la_way la_blurs la_steps la_places la_ridges la_wayBlur la_wayLength bk_times bk_froms bk_asks bk_words bk_firsts bk_lies bk_held bk_size nu_learned nu_size to_letterMarks to_names to_spelled to_rows to_alike to_near to_asks to_letters to_words to_askCount) A r0) args s 0 0 A) (F0 m 23 ls []) :=
  kX6_readAsk_p23_r dC dI cB cI cJ cZ a adK adV C0 n ww_latestFault tp_bytes tp_size dr_letterMarks dr_names dr_spelled dr_rows dr_alike dr_near dr_asks dr_letters dr_words dr_askCount sh_lanes sh_sizes sh_cells la_xs la_ys la_heights la_ridgeXs la_ridgeHeights la_way la_blurs la_steps la_places la_ridges la_wayBlur la_wayLength bk_times bk_froms bk_asks bk_words bk_firsts bk_lies bk_held bk_size nu_learned nu_size to_letterMarks to_names to_spelled to_rows to_alike to_near to_asks to_letters to_words to_askCount  r0 z_rd_fault z_rd_faultPlace z_rd_kind z_rd_start z_rd_at z_rd_number z_dr_asks z_dr_askCount  k rd_fault rd_faultPlace rd_kind rd_start rd_at rd_number x1 x2 H locs ls
set_option maxHeartbeats 4000000 in
set_option maxRecDepth 100000 in
theorem kX6_readAsk (l : Launch) (n : Nat) (dC : Nat → ClassId) (dI : Nat → Nat → Nat) (cB cI cJ cZ : ClassId) (a : Nat → Nat) (adK adV : Nat → Nat) (sz : Nat) (ww_latestFault : Int32) (tp_bytes : Nat → Int32) (tp_size : Int32) (rd_fault : Int32) (rd_faultPlace : Int32) (rd_kind : Int32) (rd_start : Int32) (rd_at : Int32) (rd_number : Int32) (dr_letterMarks : Nat → Int32) (dr_names : Nat → Int64) (dr_spelled : Nat → Int32) (dr_rows : Nat → Int64) (dr_alike : Nat → Int32) (dr_near : Nat → Int32) (dr_asks : Nat → Int32) (dr_letters : Int32) (dr_words : Int32) (dr_askCount : Int32) (sh_lanes : Nat → Int32) (sh_sizes : Nat → Int32) (sh_cells : Nat → Int32) (la_xs : Nat → Int32) (la_ys : Nat → Int32) (la_heights : Nat → Int32) (la_ridgeXs : Nat → Int32) (la_ridgeHeights : Nat → Int32) (la_way : Nat → Int32) (la_blurs : Nat → Int32) (la_steps : Nat → Int32) (la_places : Int32) (la_ridges : Int32) (la_wayBlur : Int32) (la_wayLength : Int32) (bk_times : Nat → Int32) (bk_froms : Nat → Int32) (bk_asks : Nat → Int32) (bk_words : Nat → Int32) (bk_firsts : Nat → Int32) (bk_lies : Nat → Int32) (bk_held : Nat → Int32) (bk_size : Int32) (nu_learned : Nat → Int32) (nu_size : Int32) (to_letterMarks : Nat → Int32) (to_names : Nat → Int64) (to_spelled : Nat → Int32) (to_rows : Nat → Int64) (to_alike : Nat → Int32) (to_near : Nat → Int32) (to_asks : Nat → Int32) (to_letters : Int32) (to_words : Int32) (to_askCount : Int32)  (r0 : Int32) (z_rd_fault : Int32) (z_rd_faultPlace : Int32) (z_rd_kind : Int32) (z_rd_start : Int32) (z_rd_at : Int32) (z_rd_number : Int32) (z_dr_asks : Nat → Int32) (z_dr_askCount : Int32) (h : fX6_readAsk n tp_bytes tp_size rd_fault rd_faultPlace rd_kind rd_start rd_at rd_number dr_asks dr_words dr_askCount = some (r0, z_rd_fault, z_rd_faultPlace, z_rd_kind, z_rd_start, z_rd_at, z_rd_number, z_dr_asks, z_dr_askCount)) : Met l yX6_readAsk wsX6_readAsk ({ frames := 2, cells := 0, slots := 0, locals := 42 }) (gP (dC, dI) (tyz cB cI cJ cZ) (E_X adK adV) (wX cB cI cJ cZ a (a 35) (a 4) ww_latestFault tp_bytes tp_size rd_fault rd_faultPlace rd_kind rd_start rd_at rd_number dr_letterMarks dr_names dr_spelled dr_rows dr_alike dr_near dr_asks dr_letters dr_words dr_askCount sh_lanes sh_sizes sh_cells la_xs la_ys la_heights la_ridgeXs la_ridgeHeights la_way la_blurs la_steps la_places la_ridges la_wayBlur la_wayLength bk_times bk_froms bk_asks bk_words bk_firsts bk_lies bk_held bk_size nu_learned nu_size to_letterMarks to_names to_spelled to_rows to_alike to_near to_asks to_letters to_words to_askCount) sz [.ref (a 3)]) (gI (dC, dI) (tyz cB cI cJ cZ) (wX cB cI cJ cZ a (a 35) (a 4) ww_latestFault tp_bytes tp_size z_rd_fault z_rd_faultPlace z_rd_kind z_rd_start z_rd_at z_rd_number dr_letterMarks dr_names dr_spelled dr_rows dr_alike dr_near z_dr_asks dr_letters dr_words z_dr_askCount sh_lanes sh_sizes sh_cells la_xs la_ys la_heights la_ridgeXs la_ridgeHeights la_way la_blurs la_steps la_places la_ridges la_wayBlur la_wayLength bk_times bk_froms bk_asks bk_words bk_firsts bk_lies bk_held bk_size nu_learned nu_size to_letterMarks to_names to_spelled to_rows to_alike to_near to_asks to_letters to_words to_askCount) (va_A (wX cB cI cJ cZ a (a 35) (a 4) ww_latestFault tp_bytes tp_size rd_fault rd_faultPlace rd_kind rd_start rd_at rd_number dr_letterMarks dr_names dr_spelled dr_rows dr_alike dr_near dr_asks dr_letters dr_words dr_askCount sh_lanes sh_sizes sh_cells la_xs la_ys la_heights la_ridgeXs la_ridgeHeights la_way la_blurs la_steps la_places la_ridges la_wayBlur la_wayLength bk_times bk_froms bk_asks bk_words bk_firsts bk_lies bk_held bk_size nu_learned nu_size to_letterMarks to_names to_spelled to_rows to_alike to_near to_asks to_letters to_words to_askCount) sz) r0) 0 0 (va_A (wX cB cI cJ cZ a (a 35) (a 4) ww_latestFault tp_bytes tp_size rd_fault rd_faultPlace rd_kind rd_start rd_at rd_number dr_letterMarks dr_names dr_spelled dr_rows dr_alike dr_near dr_asks dr_letters dr_words dr_askCount sh_lanes sh_sizes sh_cells la_xs la_ys la_heights la_ridgeXs la_ridgeHeights la_way la_blurs la_steps la_places la_ridges la_wayBlur la_wayLength bk_times bk_froms bk_asks bk_words bk_firsts bk_lies bk_held bk_size nu_learned nu_size to_letterMarks to_names to_spelled to_rows to_alike to_near to_asks to_letters to_words to_askCount) sz) := by
  refine Met.ofW (cc := cX6_readAsk) (maxL := 3) (ret := (some .boolean)) (by decide) rfl ?_
  intro p e s m args below meth c s₁ B hml hv
  obtain ⟨rfl, hsz, hP, hK, hD0, hE⟩ := hv
  have hx := B.exec
  have hb := B.bytes
  have hr := B.returns
  have hts := atoms_spec (ws := wsX6_readAsk) B.pre
  have hown : s.vm.findClass RX6 = some m.cls := findClass_of_methodNamed B.named
  have hlocks := B.notSynchronized
  subst hsz
  have hD := hD0.self (sz := s.heap.size)
  have hA : ∀ q : Nat, s.heap.size ≤ q → va_A (wX cB cI cJ cZ a (a 35) (a 4) ww_latestFault tp_bytes tp_size rd_fault rd_faultPlace rd_kind rd_start rd_at rd_number dr_letterMarks dr_names dr_spelled dr_rows dr_alike dr_near dr_asks dr_letters dr_words dr_askCount sh_lanes sh_sizes sh_cells la_xs la_ys la_heights la_ridgeXs la_ridgeHeights la_way la_blurs la_steps la_places la_ridges la_wayBlur la_wayLength bk_times bk_froms bk_asks bk_words bk_firsts bk_lies bk_held bk_size nu_learned nu_size to_letterMarks to_names to_spelled to_rows to_alike to_near to_asks to_letters to_words to_askCount) s.heap.size q := fun q h => Or.inr h
  generalize va_A (wX cB cI cJ cZ a (a 35) (a 4) ww_latestFault tp_bytes tp_size rd_fault rd_faultPlace rd_kind rd_start rd_at rd_number dr_letterMarks dr_names dr_spelled dr_rows dr_alike dr_near dr_asks dr_letters dr_words dr_askCount sh_lanes sh_sizes sh_cells la_xs la_ys la_heights la_ridgeXs la_ridgeHeights la_way la_blurs la_steps la_places la_ridges la_wayBlur la_wayLength bk_times bk_froms bk_asks bk_words bk_firsts bk_lies bk_held bk_size nu_learned nu_size to_letterMarks to_names to_spelled to_rows to_alike to_near to_asks to_letters to_words to_askCount) s.heap.size = A at hD hA hE ⊢
  have hS : va_S A s.heap s.heap [] := va_S.rf
  have C0 : cxt cX6_readAsk (some .boolean) 3 RX6 wsX6_readAsk (dC, dI) (tyz cB cI cJ cZ) (E_X adK adV) A p s m ([.ref (a 3)] : List Value).toArray meth c := ⟨hx, hb, hr, hml, hown, hts, hlocks, hK, hA, hE⟩
  have hl := lv_entry ([.ref (a 3)]) (n := 3) (Nat.le_of_ble_eq_true rfl)
  rw [lg_entry_eq]
  generalize (lg_sl ([.ref (a 3)]) ++ List.replicate (3 - (lg_sl ([.ref (a 3)])).length) Slot.unset).toArray = ls at hl ⊢
  have hl : lv_has ls 3 [(0, .ref (a 3))] := hl
  have hw0 := hts (.fieldLink RX6 18 "WhistledWords$TextReader" "draft" "LWhistledWords$Tongue;") (by decide +kernel)
  have hw1 := hts (.fieldLink RX6 127 "WhistledWords$Tongue" "askCount" "I") (by decide +kernel)
  have hnX6 : ∀ w ∈ u_ws RX6 TX6 8, w ∈ wsX6_readAsk := fun _ h => List.mem_cons_of_mem _ (List.mem_append_left _ (List.mem_append_left _ (List.mem_append_right _ h)))
  have hnX7 : ∀ w ∈ u_ws RX7 TX7 10, w ∈ wsX6_readAsk := fun _ h => List.mem_cons_of_mem _ (List.mem_append_left _ (List.mem_append_right _ h))
  unfold fX6_readAsk at h
  refine lv_aload_n hx hb dX6_readAsk_0 rfl (lv_at hl 0 rfl) ?_
  refine gX_reader_draft hx hb hts hnX6 hown hK hP hw0 dX6_readAsk_1 ?_
  refine gX_draft_askCount hx hb hts hnX7 hown hK hP hw1 dX6_readAsk_4 ?_
  refine lv_bipush (v := 6) hx hb dX6_readAsk_7 (by decide) ?_
  refine lv_icmp_lt (tgt := 19) hx hb dX6_readAsk_9 (by decide) (fun c1 => ?_) (fun c1 => ?_)
  · have h := it_use c1 h
    refine lv_iconst (v := 0) hx hb dX6_readAsk_19 (by decide) ?_
    refine lv_istore_n (lv' := [(1, .int (0 : Int32)), (0, .ref (a 3))]) hx hb dX6_readAsk_20 rfl hl (by decide) rfl (fun ls hl => ?_)
    refine lv_iconst (v := 0) hx hb dX6_readAsk_21 (by decide) ?_
    refine lv_istore_n (lv' := [(2, .int (0 : Int32)), (1, .int (0 : Int32)), (0, .ref (a 3))]) hx hb dX6_readAsk_22 rfl hl (by decide) rfl (fun ls hl => ?_)
    exact kX6_readAsk_p23 dC dI cB cI cJ cZ a adK adV C0 n ww_latestFault tp_bytes tp_size rd_fault rd_faultPlace rd_kind rd_start rd_at rd_number dr_letterMarks dr_names dr_spelled dr_rows dr_alike dr_near dr_asks dr_letters dr_words dr_askCount sh_lanes sh_sizes sh_cells la_xs la_ys la_heights la_ridgeXs la_ridgeHeights la_way la_blurs la_steps la_places la_ridges la_wayBlur la_wayLength bk_times bk_froms bk_asks bk_words bk_firsts bk_lies bk_held bk_size nu_learned nu_size to_letterMarks to_names to_spelled to_rows to_alike to_near to_asks to_letters to_words to_askCount (0 : Int32) (0 : Int32) r0 z_rd_fault z_rd_faultPlace z_rd_kind z_rd_start z_rd_at z_rd_number z_dr_asks z_dr_askCount  n _ _ ls h hP hD hS (lv_sub hl [2, 1, 0] rfl)
  · have h := ie_use c1 h
    refine lv_aload_n hx hb dX6_readAsk_12 rfl (lv_at hl 0 rfl) ?_
    refine lv_bipush (v := 6) hx hb dX6_readAsk_13 (by decide) ?_
    obtain ⟨v2, v3, v4, hc, h⟩ := bd3_use h
    refine cv_i (As := [.int (6 : Int32)]) (rest := []) ⟨hx, hb, hml, hown, hts⟩ (kX6_refuse l n dC dI cB cI cJ cZ a adK adV _ ww_latestFault tp_bytes tp_size rd_fault rd_faultPlace rd_kind rd_start rd_at rd_number dr_letterMarks dr_names dr_spelled dr_rows dr_alike dr_near dr_asks dr_letters dr_words dr_askCount sh_lanes sh_sizes sh_cells la_xs la_ys la_heights la_ridgeXs la_ridgeHeights la_way la_blurs la_steps la_places la_ridges la_wayBlur la_wayLength bk_times bk_froms bk_asks bk_words bk_firsts bk_lies bk_held bk_size nu_learned nu_size to_letterMarks to_names to_spelled to_rows to_alike to_near to_asks to_letters to_words to_askCount (6 : Int32) v2 v3 v4 hc) (cwV 1 hts gX6_readAsk_X6_refuse rfl rfl rfl (by decide +kernel) ⟨Nat.le_of_ble_eq_true rfl, Nat.le_of_ble_eq_true rfl⟩) EB_X hE hK hP hD hS hA 3 (ci := 5) rfl rfl rfl rfl hl.1 rfl (Nat.le_of_ble_eq_true rfl) dX6_readAsk_15 ⟨Nat.zero_le _, Nat.zero_le _⟩ (fun H locs hP hD hS => ?_)
    obtain ⟨hzb, h⟩ := rb_use h
    obtain ⟨er, ez0, ez1, ez2, ez3, ez4, ez5, ez6, ez7⟩ := rt9_use h
    subst ez0
    subst ez1
    subst ez2
    subst ez3
    subst ez4
    subst ez5
    subst ez6
    subst ez7
    exact re_z hx hb hr hlocks hK hP hD hS hzb er dX6_readAsk_18
set_option maxHeartbeats 4000000 in
set_option maxRecDepth 100000 in
theorem kX6_readLine (l : Launch) (n : Nat) (dC : Nat → ClassId) (dI : Nat → Nat → Nat) (cB cI cJ cZ : ClassId) (a : Nat → Nat) (adK adV : Nat → Nat) (sz : Nat) (ww_latestFault : Int32) (tp_bytes : Nat → Int32) (tp_size : Int32) (rd_fault : Int32) (rd_faultPlace : Int32) (rd_kind : Int32) (rd_start : Int32) (rd_at : Int32) (rd_number : Int32) (dr_letterMarks : Nat → Int32) (dr_names : Nat → Int64) (dr_spelled : Nat → Int32) (dr_rows : Nat → Int64) (dr_alike : Nat → Int32) (dr_near : Nat → Int32) (dr_asks : Nat → Int32) (dr_letters : Int32) (dr_words : Int32) (dr_askCount : Int32) (sh_lanes : Nat → Int32) (sh_sizes : Nat → Int32) (sh_cells : Nat → Int32) (la_xs : Nat → Int32) (la_ys : Nat → Int32) (la_heights : Nat → Int32) (la_ridgeXs : Nat → Int32) (la_ridgeHeights : Nat → Int32) (la_way : Nat → Int32) (la_blurs : Nat → Int32) (la_steps : Nat → Int32) (la_places : Int32) (la_ridges : Int32) (la_wayBlur : Int32) (la_wayLength : Int32) (bk_times : Nat → Int32) (bk_froms : Nat → Int32) (bk_asks : Nat → Int32) (bk_words : Nat → Int32) (bk_firsts : Nat → Int32) (bk_lies : Nat → Int32) (bk_held : Nat → Int32) (bk_size : Int32) (nu_learned : Nat → Int32) (nu_size : Int32) (to_letterMarks : Nat → Int32) (to_names : Nat → Int64) (to_spelled : Nat → Int32) (to_rows : Nat → Int64) (to_alike : Nat → Int32) (to_near : Nat → Int32) (to_asks : Nat → Int32) (to_letters : Int32) (to_words : Int32) (to_askCount : Int32)  (r0 : Int32) (z_rd_fault : Int32) (z_rd_faultPlace : Int32) (z_rd_kind : Int32) (z_rd_start : Int32) (z_rd_at : Int32) (z_rd_number : Int32) (z_dr_letterMarks : Nat → Int32) (z_dr_names : Nat → Int64) (z_dr_spelled : Nat → Int32) (z_dr_rows : Nat → Int64) (z_dr_asks : Nat → Int32) (z_dr_letters : Int32) (z_dr_words : Int32) (z_dr_askCount : Int32) (h : fX6_readLine n tp_bytes tp_size rd_fault rd_faultPlace rd_kind rd_start rd_at rd_number dr_letterMarks dr_names dr_spelled dr_rows dr_asks dr_letters dr_words dr_askCount = some (r0, z_rd_fault, z_rd_faultPlace, z_rd_kind, z_rd_start, z_rd_at, z_rd_number, z_dr_letterMarks, z_dr_names, z_dr_spelled, z_dr_rows, z_dr_asks, z_dr_letters, z_dr_words, z_dr_askCount)) : Met l yX6_readLine wsX6_readLine ({ frames := 5, cells := 0, slots := 0, locals := 107 }) (gP (dC, dI) (tyz cB cI cJ cZ) (E_X adK adV) (wX cB cI cJ cZ a (a 35) (a 4) ww_latestFault tp_bytes tp_size rd_fault rd_faultPlace rd_kind rd_start rd_at rd_number dr_letterMarks dr_names dr_spelled dr_rows dr_alike dr_near dr_asks dr_letters dr_words dr_askCount sh_lanes sh_sizes sh_cells la_xs la_ys la_heights la_ridgeXs la_ridgeHeights la_way la_blurs la_steps la_places la_ridges la_wayBlur la_wayLength bk_times bk_froms bk_asks bk_words bk_firsts bk_lies bk_held bk_size nu_learned nu_size to_letterMarks to_names to_spelled to_rows to_alike to_near to_asks to_letters to_words to_askCount) sz [.ref (a 3)]) (gI (dC, dI) (tyz cB cI cJ cZ) (wX cB cI cJ cZ a (a 35) (a 4) ww_latestFault tp_bytes tp_size z_rd_fault z_rd_faultPlace z_rd_kind z_rd_start z_rd_at z_rd_number z_dr_letterMarks z_dr_names z_dr_spelled z_dr_rows dr_alike dr_near z_dr_asks z_dr_letters z_dr_words z_dr_askCount sh_lanes sh_sizes sh_cells la_xs la_ys la_heights la_ridgeXs la_ridgeHeights la_way la_blurs la_steps la_places la_ridges la_wayBlur la_wayLength bk_times bk_froms bk_asks bk_words bk_firsts bk_lies bk_held bk_size nu_learned nu_size to_letterMarks to_names to_spelled to_rows to_alike to_near to_asks to_letters to_words to_askCount) (va_A (wX cB cI cJ cZ a (a 35) (a 4) ww_latestFault tp_bytes tp_size rd_fault rd_faultPlace rd_kind rd_start rd_at rd_number dr_letterMarks dr_names dr_spelled dr_rows dr_alike dr_near dr_asks dr_letters dr_words dr_askCount sh_lanes sh_sizes sh_cells la_xs la_ys la_heights la_ridgeXs la_ridgeHeights la_way la_blurs la_steps la_places la_ridges la_wayBlur la_wayLength bk_times bk_froms bk_asks bk_words bk_firsts bk_lies bk_held bk_size nu_learned nu_size to_letterMarks to_names to_spelled to_rows to_alike to_near to_asks to_letters to_words to_askCount) sz) r0) 0 0 (va_A (wX cB cI cJ cZ a (a 35) (a 4) ww_latestFault tp_bytes tp_size rd_fault rd_faultPlace rd_kind rd_start rd_at rd_number dr_letterMarks dr_names dr_spelled dr_rows dr_alike dr_near dr_asks dr_letters dr_words dr_askCount sh_lanes sh_sizes sh_cells la_xs la_ys la_heights la_ridgeXs la_ridgeHeights la_way la_blurs la_steps la_places la_ridges la_wayBlur la_wayLength bk_times bk_froms bk_asks bk_words bk_firsts bk_lies bk_held bk_size nu_learned nu_size to_letterMarks to_names to_spelled to_rows to_alike to_near to_asks to_letters to_words to_askCount) sz) := by
  refine Met.ofW (cc := cX6_readLine) (maxL := 1) (ret := (some .boolean)) (by decide) rfl ?_
  intro p e s m args below meth c s₁ B hml hv
  obtain ⟨rfl, hsz, hP, hK, hD0, hE⟩ := hv
  have hx := B.exec
  have hb := B.bytes
  have hr := B.returns
  have hts := atoms_spec (ws := wsX6_readLine) B.pre
  have hown : s.vm.findClass RX6 = some m.cls := findClass_of_methodNamed B.named
  have hlocks := B.notSynchronized
  subst hsz
  have hD := hD0.self (sz := s.heap.size)
  have hA : ∀ q : Nat, s.heap.size ≤ q → va_A (wX cB cI cJ cZ a (a 35) (a 4) ww_latestFault tp_bytes tp_size rd_fault rd_faultPlace rd_kind rd_start rd_at rd_number dr_letterMarks dr_names dr_spelled dr_rows dr_alike dr_near dr_asks dr_letters dr_words dr_askCount sh_lanes sh_sizes sh_cells la_xs la_ys la_heights la_ridgeXs la_ridgeHeights la_way la_blurs la_steps la_places la_ridges la_wayBlur la_wayLength bk_times bk_froms bk_asks bk_words bk_firsts bk_lies bk_held bk_size nu_learned nu_size to_letterMarks to_names to_spelled to_rows to_alike to_near to_asks to_letters to_words to_askCount) s.heap.size q := fun q h => Or.inr h
  generalize va_A (wX cB cI cJ cZ a (a 35) (a 4) ww_latestFault tp_bytes tp_size rd_fault rd_faultPlace rd_kind rd_start rd_at rd_number dr_letterMarks dr_names dr_spelled dr_rows dr_alike dr_near dr_asks dr_letters dr_words dr_askCount sh_lanes sh_sizes sh_cells la_xs la_ys la_heights la_ridgeXs la_ridgeHeights la_way la_blurs la_steps la_places la_ridges la_wayBlur la_wayLength bk_times bk_froms bk_asks bk_words bk_firsts bk_lies bk_held bk_size nu_learned nu_size to_letterMarks to_names to_spelled to_rows to_alike to_near to_asks to_letters to_words to_askCount) s.heap.size = A at hD hA hE ⊢
  have hS : va_S A s.heap s.heap [] := va_S.rf
  have C0 : cxt cX6_readLine (some .boolean) 1 RX6 wsX6_readLine (dC, dI) (tyz cB cI cJ cZ) (E_X adK adV) A p s m ([.ref (a 3)] : List Value).toArray meth c := ⟨hx, hb, hr, hml, hown, hts, hlocks, hK, hA, hE⟩
  have hl := lv_entry ([.ref (a 3)]) (n := 1) (Nat.le_of_ble_eq_true rfl)
  rw [lg_entry_eq]
  generalize (lg_sl ([.ref (a 3)]) ++ List.replicate (1 - (lg_sl ([.ref (a 3)])).length) Slot.unset).toArray = ls at hl ⊢
  have hl : lv_has ls 1 [(0, .ref (a 3))] := hl
  have hw0 := hts (.fieldLink RX6 40 "WhistledWords$TextReader" "kind" "I") (by decide +kernel)
  have hnX6 : ∀ w ∈ u_ws RX6 TX6 8, w ∈ wsX6_readLine := fun _ h => List.mem_cons_of_mem _ (List.mem_append_left _ (List.mem_append_left _ (List.mem_append_right _ h)))
  unfold fX6_readLine at h
  refine lv_aload_n hx hb dX6_readLine_0 rfl (lv_at hl 0 rfl) ?_
  refine gX_reader_kind hx hb hts hnX6 hown hK hP hw0 dX6_readLine_1 ?_
  refine lv_iconst (v := 1) hx hb dX6_readLine_4 (by decide) ?_
  refine lv_icmp_eq (tgt := 14) hx hb dX6_readLine_5 (by decide) (fun c1 => ?_) (fun c1 => ?_)
  · have h := it_use c1 h
    refine lv_aload_n hx hb dX6_readLine_14 rfl (lv_at hl 0 rfl) ?_
    refine va_ldcS hx hb hown hE.2.2.1 dX6_readLine_15 ?_
    obtain ⟨v2, hc, h⟩ := bd1_use h
    refine cv_i (As := [.ref (adK 0)]) (rest := []) ⟨hx, hb, hml, hown, hts⟩ (kX6_spells_0 l n dC dI cB cI cJ cZ a adK adV _ ww_latestFault tp_bytes tp_size rd_fault rd_faultPlace rd_kind rd_start rd_at rd_number dr_letterMarks dr_names dr_spelled dr_rows dr_alike dr_near dr_asks dr_letters dr_words dr_askCount sh_lanes sh_sizes sh_cells la_xs la_ys la_heights la_ridgeXs la_ridgeHeights la_way la_blurs la_steps la_places la_ridges la_wayBlur la_wayLength bk_times bk_froms bk_asks bk_words bk_firsts bk_lies bk_held bk_size nu_learned nu_size to_letterMarks to_names to_spelled to_rows to_alike to_near to_asks to_letters to_words to_askCount  v2 hc) (cwV 1 hts gX6_readLine_X6_spells rfl rfl rfl (by decide +kernel) ⟨Nat.le_of_ble_eq_true rfl, Nat.le_of_ble_eq_true rfl⟩) EB_X hE hK hP hD hS hA 3 (ci := 5) rfl rfl rfl rfl hl.1 rfl (Nat.le_of_ble_eq_true rfl) dX6_readLine_17 ⟨Nat.zero_le _, Nat.zero_le _⟩ (fun H locs hP hD hS => ?_)
    refine lv_if_eq (tgt := 31) hx hb dX6_readLine_20 (by decide) (fun c3 => ?_) (fun c3 => ?_)
    · have h := it_use c3 h
      refine lv_aload_n hx hb dX6_readLine_31 rfl (lv_at hl 0 rfl) ?_
      refine va_ldcS hx hb hown hE.2.2.2.1 dX6_readLine_32 ?_
      obtain ⟨v4, hc, h⟩ := bd1_use h
      refine cv_i (As := [.ref (adK 1)]) (rest := []) ⟨hx, hb, hml, hown, hts⟩ (kX6_spells_1 l n dC dI cB cI cJ cZ a adK adV _ ww_latestFault tp_bytes tp_size rd_fault rd_faultPlace rd_kind rd_start rd_at rd_number dr_letterMarks dr_names dr_spelled dr_rows dr_alike dr_near dr_asks dr_letters dr_words dr_askCount sh_lanes sh_sizes sh_cells la_xs la_ys la_heights la_ridgeXs la_ridgeHeights la_way la_blurs la_steps la_places la_ridges la_wayBlur la_wayLength bk_times bk_froms bk_asks bk_words bk_firsts bk_lies bk_held bk_size nu_learned nu_size to_letterMarks to_names to_spelled to_rows to_alike to_near to_asks to_letters to_words to_askCount  v4 hc) (cwV 1 hts gX6_readLine_X6_spells rfl rfl rfl (by decide +kernel) ⟨Nat.le_of_ble_eq_true rfl, Nat.le_of_ble_eq_true rfl⟩) EB_X hE hK hP hD hS hA 3 (ci := 5) rfl rfl rfl rfl hl.1 rfl (Nat.le_of_ble_eq_true rfl) dX6_readLine_34 ⟨Nat.zero_le _, Nat.zero_le _⟩ (fun H locs hP hD hS => ?_)
      refine lv_if_eq (tgt := 48) hx hb dX6_readLine_37 (by decide) (fun c5 => ?_) (fun c5 => ?_)
      · have h := it_use c5 h
        refine lv_aload_n hx hb dX6_readLine_48 rfl (lv_at hl 0 rfl) ?_
        refine va_ldcS hx hb hown hE.2.2.2.2.1 dX6_readLine_49 ?_
        obtain ⟨v6, hc, h⟩ := bd1_use h
        refine cv_i (As := [.ref (adK 2)]) (rest := []) ⟨hx, hb, hml, hown, hts⟩ (kX6_spells_2 l n dC dI cB cI cJ cZ a adK adV _ ww_latestFault tp_bytes tp_size rd_fault rd_faultPlace rd_kind rd_start rd_at rd_number dr_letterMarks dr_names dr_spelled dr_rows dr_alike dr_near dr_asks dr_letters dr_words dr_askCount sh_lanes sh_sizes sh_cells la_xs la_ys la_heights la_ridgeXs la_ridgeHeights la_way la_blurs la_steps la_places la_ridges la_wayBlur la_wayLength bk_times bk_froms bk_asks bk_words bk_firsts bk_lies bk_held bk_size nu_learned nu_size to_letterMarks to_names to_spelled to_rows to_alike to_near to_asks to_letters to_words to_askCount  v6 hc) (cwV 1 hts gX6_readLine_X6_spells rfl rfl rfl (by decide +kernel) ⟨Nat.le_of_ble_eq_true rfl, Nat.le_of_ble_eq_true rfl⟩) EB_X hE hK hP hD hS hA 3 (ci := 5) rfl rfl rfl rfl hl.1 rfl (Nat.le_of_ble_eq_true rfl) dX6_readLine_51 ⟨Nat.zero_le _, Nat.zero_le _⟩ (fun H locs hP hD hS => ?_)
        refine lv_if_eq (tgt := 64) hx hb dX6_readLine_54 (by decide) (fun c7 => ?_) (fun c7 => ?_)
        · have h := it_use c7 h
          refine lv_aload_n hx hb dX6_readLine_64 rfl (lv_at hl 0 rfl) ?_
          refine va_ldcS hx hb hown hE.2.2.2.2.2.1 dX6_readLine_65 ?_
          obtain ⟨v8, hc, h⟩ := bd1_use h
          refine cv_i (As := [.ref (adK 3)]) (rest := []) ⟨hx, hb, hml, hown, hts⟩ (kX6_spells_3 l n dC dI cB cI cJ cZ a adK adV _ ww_latestFault tp_bytes tp_size rd_fault rd_faultPlace rd_kind rd_start rd_at rd_number dr_letterMarks dr_names dr_spelled dr_rows dr_alike dr_near dr_asks dr_letters dr_words dr_askCount sh_lanes sh_sizes sh_cells la_xs la_ys la_heights la_ridgeXs la_ridgeHeights la_way la_blurs la_steps la_places la_ridges la_wayBlur la_wayLength bk_times bk_froms bk_asks bk_words bk_firsts bk_lies bk_held bk_size nu_learned nu_size to_letterMarks to_names to_spelled to_rows to_alike to_near to_asks to_letters to_words to_askCount  v8 hc) (cwV 1 hts gX6_readLine_X6_spells rfl rfl rfl (by decide +kernel) ⟨Nat.le_of_ble_eq_true rfl, Nat.le_of_ble_eq_true rfl⟩) EB_X hE hK hP hD hS hA 3 (ci := 5) rfl rfl rfl rfl hl.1 rfl (Nat.le_of_ble_eq_true rfl) dX6_readLine_67 ⟨Nat.zero_le _, Nat.zero_le _⟩ (fun H locs hP hD hS => ?_)
          refine lv_if_eq (tgt := 80) hx hb dX6_readLine_70 (by decide) (fun c9 => ?_) (fun c9 => ?_)
          · have h := it_use c9 h
            refine lv_aload_n hx hb dX6_readLine_80 rfl (lv_at hl 0 rfl) ?_
            refine va_ldcS hx hb hown hE.2.2.2.2.2.2.1 dX6_readLine_81 ?_
            obtain ⟨v10, hc, h⟩ := bd1_use h
            refine cv_i (As := [.ref (adK 4)]) (rest := []) ⟨hx, hb, hml, hown, hts⟩ (kX6_spells_4 l n dC dI cB cI cJ cZ a adK adV _ ww_latestFault tp_bytes tp_size rd_fault rd_faultPlace rd_kind rd_start rd_at rd_number dr_letterMarks dr_names dr_spelled dr_rows dr_alike dr_near dr_asks dr_letters dr_words dr_askCount sh_lanes sh_sizes sh_cells la_xs la_ys la_heights la_ridgeXs la_ridgeHeights la_way la_blurs la_steps la_places la_ridges la_wayBlur la_wayLength bk_times bk_froms bk_asks bk_words bk_firsts bk_lies bk_held bk_size nu_learned nu_size to_letterMarks to_names to_spelled to_rows to_alike to_near to_asks to_letters to_words to_askCount  v10 hc) (cwV 1 hts gX6_readLine_X6_spells rfl rfl rfl (by decide +kernel) ⟨Nat.le_of_ble_eq_true rfl, Nat.le_of_ble_eq_true rfl⟩) EB_X hE hK hP hD hS hA 3 (ci := 5) rfl rfl rfl rfl hl.1 rfl (Nat.le_of_ble_eq_true rfl) dX6_readLine_83 ⟨Nat.zero_le _, Nat.zero_le _⟩ (fun H locs hP hD hS => ?_)
            refine lv_if_eq (tgt := 94) hx hb dX6_readLine_86 (by decide) (fun c11 => ?_) (fun c11 => ?_)
            · have h := it_use c11 h
              refine lv_aload_n hx hb dX6_readLine_94 rfl (lv_at hl 0 rfl) ?_
              refine va_ldcS hx hb hown hE.2.2.2.2.2.2.2 dX6_readLine_95 ?_
              obtain ⟨v12, hc, h⟩ := bd1_use h
              refine cv_i (As := [.ref (adK 5)]) (rest := []) ⟨hx, hb, hml, hown, hts⟩ (kX6_spells_5 l n dC dI cB cI cJ cZ a adK adV _ ww_latestFault tp_bytes tp_size rd_fault rd_faultPlace rd_kind rd_start rd_at rd_number dr_letterMarks dr_names dr_spelled dr_rows dr_alike dr_near dr_asks dr_letters dr_words dr_askCount sh_lanes sh_sizes sh_cells la_xs la_ys la_heights la_ridgeXs la_ridgeHeights la_way la_blurs la_steps la_places la_ridges la_wayBlur la_wayLength bk_times bk_froms bk_asks bk_words bk_firsts bk_lies bk_held bk_size nu_learned nu_size to_letterMarks to_names to_spelled to_rows to_alike to_near to_asks to_letters to_words to_askCount  v12 hc) (cwV 1 hts gX6_readLine_X6_spells rfl rfl rfl (by decide +kernel) ⟨Nat.le_of_ble_eq_true rfl, Nat.le_of_ble_eq_true rfl⟩) EB_X hE hK hP hD hS hA 3 (ci := 5) rfl rfl rfl rfl hl.1 rfl (Nat.le_of_ble_eq_true rfl) dX6_readLine_97 ⟨Nat.zero_le _, Nat.zero_le _⟩ (fun H locs hP hD hS => ?_)
              refine lv_if_eq (tgt := 108) hx hb dX6_readLine_100 (by decide) (fun c13 => ?_) (fun c13 => ?_)
              · have h := it_use c13 h
                refine lv_aload_n hx hb dX6_readLine_108 rfl (lv_at hl 0 rfl) ?_
                refine lv_iconst (v := 2) hx hb dX6_readLine_109 (by decide) ?_
                obtain ⟨v14, v15, v16, hc, h⟩ := bd3_use h
                refine cv_i (As := [.int (2 : Int32)]) (rest := []) ⟨hx, hb, hml, hown, hts⟩ (kX6_refuse l n dC dI cB cI cJ cZ a adK adV _ ww_latestFault tp_bytes tp_size rd_fault rd_faultPlace rd_kind rd_start rd_at rd_number dr_letterMarks dr_names dr_spelled dr_rows dr_alike dr_near dr_asks dr_letters dr_words dr_askCount sh_lanes sh_sizes sh_cells la_xs la_ys la_heights la_ridgeXs la_ridgeHeights la_way la_blurs la_steps la_places la_ridges la_wayBlur la_wayLength bk_times bk_froms bk_asks bk_words bk_firsts bk_lies bk_held bk_size nu_learned nu_size to_letterMarks to_names to_spelled to_rows to_alike to_near to_asks to_letters to_words to_askCount (2 : Int32) v14 v15 v16 hc) (cwV 1 hts gX6_readLine_X6_refuse rfl rfl rfl (by decide +kernel) ⟨Nat.le_of_ble_eq_true rfl, Nat.le_of_ble_eq_true rfl⟩) EB_X hE hK hP hD hS hA 3 (ci := 5) rfl rfl rfl rfl hl.1 rfl (Nat.le_of_ble_eq_true rfl) dX6_readLine_110 ⟨Nat.zero_le _, Nat.zero_le _⟩ (fun H locs hP hD hS => ?_)
                obtain ⟨hzb, h⟩ := rb_use h
                obtain ⟨er, ez0, ez1, ez2, ez3, ez4, ez5, ez6, ez7, ez8, ez9, ez10, ez11, ez12, ez13⟩ := rt15_use h
                subst ez0
                subst ez1
                subst ez2
                subst ez3
                subst ez4
                subst ez5
                subst ez6
                subst ez7
                subst ez8
                subst ez9
                subst ez10
                subst ez11
                subst ez12
                subst ez13
                exact re_z hx hb hr hlocks hK hP hD hS hzb er dX6_readLine_113
              · have h := ie_use c13 h
                refine lv_aload_n hx hb dX6_readLine_103 rfl (lv_at hl 0 rfl) ?_
                obtain ⟨v17, v18, v19, v20, v21, v22, v23, f24, v25, hc, h⟩ := bd9_use h
                refine cv_i (As := []) (rest := []) ⟨hx, hb, hml, hown, hts⟩ (kX6_readAsk l n dC dI cB cI cJ cZ a adK adV _ ww_latestFault tp_bytes tp_size rd_fault rd_faultPlace rd_kind rd_start rd_at rd_number dr_letterMarks dr_names dr_spelled dr_rows dr_alike dr_near dr_asks dr_letters dr_words dr_askCount sh_lanes sh_sizes sh_cells la_xs la_ys la_heights la_ridgeXs la_ridgeHeights la_way la_blurs la_steps la_places la_ridges la_wayBlur la_wayLength bk_times bk_froms bk_asks bk_words bk_firsts bk_lies bk_held bk_size nu_learned nu_size to_letterMarks to_names to_spelled to_rows to_alike to_near to_asks to_letters to_words to_askCount  v17 v18 v19 v20 v21 v22 v23 f24 v25 hc) (cwV 0 hts gX6_readLine_X6_readAsk rfl rfl rfl (by decide +kernel) ⟨Nat.le_of_ble_eq_true rfl, Nat.le_of_ble_eq_true rfl⟩) EB_X hE hK hP hD hS hA 3 (ci := 5) rfl rfl rfl rfl hl.1 rfl (Nat.le_of_ble_eq_true rfl) dX6_readLine_104 ⟨Nat.zero_le _, Nat.zero_le _⟩ (fun H locs hP hD hS => ?_)
                obtain ⟨hzb, h⟩ := rb_use h
                obtain ⟨er, ez0, ez1, ez2, ez3, ez4, ez5, ez6, ez7, ez8, ez9, ez10, ez11, ez12, ez13⟩ := rt15_use h
                subst ez0
                subst ez1
                subst ez2
                subst ez3
                subst ez4
                subst ez5
                subst ez6
                subst ez7
                subst ez8
                subst ez9
                subst ez10
                subst ez11
                subst ez12
                subst ez13
                exact re_z hx hb hr hlocks hK hP hD hS hzb er dX6_readLine_107
            · have h := ie_use c11 h
              refine lv_aload_n hx hb dX6_readLine_89 rfl (lv_at hl 0 rfl) ?_
              obtain ⟨v26, v27, v28, v29, v30, v31, v32, f33, f34, f35, v36, hc, h⟩ := bd11_use h
              refine cv_i (As := []) (rest := []) ⟨hx, hb, hml, hown, hts⟩ (kX6_readWord l n dC dI cB cI cJ cZ a adK adV _ ww_latestFault tp_bytes tp_size rd_fault rd_faultPlace rd_kind rd_start rd_at rd_number dr_letterMarks dr_names dr_spelled dr_rows dr_alike dr_near dr_asks dr_letters dr_words dr_askCount sh_lanes sh_sizes sh_cells la_xs la_ys la_heights la_ridgeXs la_ridgeHeights la_way la_blurs la_steps la_places la_ridges la_wayBlur la_wayLength bk_times bk_froms bk_asks bk_words bk_firsts bk_lies bk_held bk_size nu_learned nu_size to_letterMarks to_names to_spelled to_rows to_alike to_near to_asks to_letters to_words to_askCount  v26 v27 v28 v29 v30 v31 v32 f33 f34 f35 v36 hc) (cwV 0 hts gX6_readLine_X6_readWord rfl rfl rfl (by decide +kernel) ⟨Nat.le_of_ble_eq_true rfl, Nat.le_of_ble_eq_true rfl⟩) EB_X hE hK hP hD hS hA 3 (ci := 5) rfl rfl rfl rfl hl.1 rfl (Nat.le_of_ble_eq_true rfl) dX6_readLine_90 ⟨Nat.zero_le _, Nat.zero_le _⟩ (fun H locs hP hD hS => ?_)
              obtain ⟨hzb, h⟩ := rb_use h
              obtain ⟨er, ez0, ez1, ez2, ez3, ez4, ez5, ez6, ez7, ez8, ez9, ez10, ez11, ez12, ez13⟩ := rt15_use h
              subst ez0
              subst ez1
              subst ez2
              subst ez3
              subst ez4
              subst ez5
              subst ez6
              subst ez7
              subst ez8
              subst ez9
              subst ez10
              subst ez11
              subst ez12
              subst ez13
              exact re_z hx hb hr hlocks hK hP hD hS hzb er dX6_readLine_93
          · have h := ie_use c9 h
            refine lv_aload_n hx hb dX6_readLine_73 rfl (lv_at hl 0 rfl) ?_
            refine lv_bipush (v := -2) hx hb dX6_readLine_74 (by decide) ?_
            obtain ⟨v37, v38, v39, v40, v41, v42, v43, f44, v45, hc, h⟩ := bd9_use h
            refine cv_i (As := [.int (-2 : Int32)]) (rest := []) ⟨hx, hb, hml, hown, hts⟩ (kX6_readPlainLetter l n dC dI cB cI cJ cZ a adK adV _ ww_latestFault tp_bytes tp_size rd_fault rd_faultPlace rd_kind rd_start rd_at rd_number dr_letterMarks dr_names dr_spelled dr_rows dr_alike dr_near dr_asks dr_letters dr_words dr_askCount sh_lanes sh_sizes sh_cells la_xs la_ys la_heights la_ridgeXs la_ridgeHeights la_way la_blurs la_steps la_places la_ridges la_wayBlur la_wayLength bk_times bk_froms bk_asks bk_words bk_firsts bk_lies bk_held bk_size nu_learned nu_size to_letterMarks to_names to_spelled to_rows to_alike to_near to_asks to_letters to_words to_askCount (-2 : Int32) v37 v38 v39 v40 v41 v42 v43 f44 v45 hc) (cwV 1 hts gX6_readLine_X6_readPlainLetter rfl rfl rfl (by decide +kernel) ⟨Nat.le_of_ble_eq_true rfl, Nat.le_of_ble_eq_true rfl⟩) EB_X hE hK hP hD hS hA 3 (ci := 5) rfl rfl rfl rfl hl.1 rfl (Nat.le_of_ble_eq_true rfl) dX6_readLine_76 ⟨Nat.zero_le _, Nat.zero_le _⟩ (fun H locs hP hD hS => ?_)
            obtain ⟨hzb, h⟩ := rb_use h
            obtain ⟨er, ez0, ez1, ez2, ez3, ez4, ez5, ez6, ez7, ez8, ez9, ez10, ez11, ez12, ez13⟩ := rt15_use h
            subst ez0
            subst ez1
            subst ez2
            subst ez3
            subst ez4
            subst ez5
            subst ez6
            subst ez7
            subst ez8
            subst ez9
            subst ez10
            subst ez11
            subst ez12
            subst ez13
            exact re_z hx hb hr hlocks hK hP hD hS hzb er dX6_readLine_79
        · have h := ie_use c7 h
          refine lv_aload_n hx hb dX6_readLine_57 rfl (lv_at hl 0 rfl) ?_
          refine lv_bipush (v := 20) hx hb dX6_readLine_58 (by decide) ?_
          obtain ⟨v46, v47, v48, v49, v50, v51, v52, f53, v54, hc, h⟩ := bd9_use h
          refine cv_i (As := [.int (20 : Int32)]) (rest := []) ⟨hx, hb, hml, hown, hts⟩ (kX6_readPlainLetter l n dC dI cB cI cJ cZ a adK adV _ ww_latestFault tp_bytes tp_size rd_fault rd_faultPlace rd_kind rd_start rd_at rd_number dr_letterMarks dr_names dr_spelled dr_rows dr_alike dr_near dr_asks dr_letters dr_words dr_askCount sh_lanes sh_sizes sh_cells la_xs la_ys la_heights la_ridgeXs la_ridgeHeights la_way la_blurs la_steps la_places la_ridges la_wayBlur la_wayLength bk_times bk_froms bk_asks bk_words bk_firsts bk_lies bk_held bk_size nu_learned nu_size to_letterMarks to_names to_spelled to_rows to_alike to_near to_asks to_letters to_words to_askCount (20 : Int32) v46 v47 v48 v49 v50 v51 v52 f53 v54 hc) (cwV 1 hts gX6_readLine_X6_readPlainLetter rfl rfl rfl (by decide +kernel) ⟨Nat.le_of_ble_eq_true rfl, Nat.le_of_ble_eq_true rfl⟩) EB_X hE hK hP hD hS hA 3 (ci := 5) rfl rfl rfl rfl hl.1 rfl (Nat.le_of_ble_eq_true rfl) dX6_readLine_60 ⟨Nat.zero_le _, Nat.zero_le _⟩ (fun H locs hP hD hS => ?_)
          obtain ⟨hzb, h⟩ := rb_use h
          obtain ⟨er, ez0, ez1, ez2, ez3, ez4, ez5, ez6, ez7, ez8, ez9, ez10, ez11, ez12, ez13⟩ := rt15_use h
          subst ez0
          subst ez1
          subst ez2
          subst ez3
          subst ez4
          subst ez5
          subst ez6
          subst ez7
          subst ez8
          subst ez9
          subst ez10
          subst ez11
          subst ez12
          subst ez13
          exact re_z hx hb hr hlocks hK hP hD hS hzb er dX6_readLine_63
      · have h := ie_use c5 h
        refine lv_aload_n hx hb dX6_readLine_40 rfl (lv_at hl 0 rfl) ?_
        refine lv_bipush (v := 16) hx hb dX6_readLine_41 (by decide) ?_
        refine lv_iconst (v := 4) hx hb dX6_readLine_43 (by decide) ?_
        obtain ⟨v55, v56, v57, v58, v59, v60, v61, f62, v63, hc, h⟩ := bd9_use h
        refine cv_i (As := [.int (16 : Int32), .int (4 : Int32)]) (rest := []) ⟨hx, hb, hml, hown, hts⟩ (kX6_readNumberedLetter l n dC dI cB cI cJ cZ a adK adV _ ww_latestFault tp_bytes tp_size rd_fault rd_faultPlace rd_kind rd_start rd_at rd_number dr_letterMarks dr_names dr_spelled dr_rows dr_alike dr_near dr_asks dr_letters dr_words dr_askCount sh_lanes sh_sizes sh_cells la_xs la_ys la_heights la_ridgeXs la_ridgeHeights la_way la_blurs la_steps la_places la_ridges la_wayBlur la_wayLength bk_times bk_froms bk_asks bk_words bk_firsts bk_lies bk_held bk_size nu_learned nu_size to_letterMarks to_names to_spelled to_rows to_alike to_near to_asks to_letters to_words to_askCount (16 : Int32) (4 : Int32) v55 v56 v57 v58 v59 v60 v61 f62 v63 hc) (cwV 2 hts gX6_readLine_X6_readNumberedLetter rfl rfl rfl (by decide +kernel) ⟨Nat.le_of_ble_eq_true rfl, Nat.le_of_ble_eq_true rfl⟩) EB_X hE hK hP hD hS hA 3 (ci := 5) rfl rfl rfl rfl hl.1 rfl (Nat.le_of_ble_eq_true rfl) dX6_readLine_44 ⟨Nat.zero_le _, Nat.zero_le _⟩ (fun H locs hP hD hS => ?_)
        obtain ⟨hzb, h⟩ := rb_use h
        obtain ⟨er, ez0, ez1, ez2, ez3, ez4, ez5, ez6, ez7, ez8, ez9, ez10, ez11, ez12, ez13⟩ := rt15_use h
        subst ez0
        subst ez1
        subst ez2
        subst ez3
        subst ez4
        subst ez5
        subst ez6
        subst ez7
        subst ez8
        subst ez9
        subst ez10
        subst ez11
        subst ez12
        subst ez13
        exact re_z hx hb hr hlocks hK hP hD hS hzb er dX6_readLine_47
    · have h := ie_use c3 h
      refine lv_aload_n hx hb dX6_readLine_23 rfl (lv_at hl 0 rfl) ?_
      refine lv_iconst (v := 0) hx hb dX6_readLine_24 (by decide) ?_
      refine lv_bipush (v := 16) hx hb dX6_readLine_25 (by decide) ?_
      obtain ⟨v64, v65, v66, v67, v68, v69, v70, f71, v72, hc, h⟩ := bd9_use h
      refine cv_i (As := [.int (0 : Int32), .int (16 : Int32)]) (rest := []) ⟨hx, hb, hml, hown, hts⟩ (kX6_readNumberedLetter l n dC dI cB cI cJ cZ a adK adV _ ww_latestFault tp_bytes tp_size rd_fault rd_faultPlace rd_kind rd_start rd_at rd_number dr_letterMarks dr_names dr_spelled dr_rows dr_alike dr_near dr_asks dr_letters dr_words dr_askCount sh_lanes sh_sizes sh_cells la_xs la_ys la_heights la_ridgeXs la_ridgeHeights la_way la_blurs la_steps la_places la_ridges la_wayBlur la_wayLength bk_times bk_froms bk_asks bk_words bk_firsts bk_lies bk_held bk_size nu_learned nu_size to_letterMarks to_names to_spelled to_rows to_alike to_near to_asks to_letters to_words to_askCount (0 : Int32) (16 : Int32) v64 v65 v66 v67 v68 v69 v70 f71 v72 hc) (cwV 2 hts gX6_readLine_X6_readNumberedLetter rfl rfl rfl (by decide +kernel) ⟨Nat.le_of_ble_eq_true rfl, Nat.le_of_ble_eq_true rfl⟩) EB_X hE hK hP hD hS hA 3 (ci := 5) rfl rfl rfl rfl hl.1 rfl (Nat.le_of_ble_eq_true rfl) dX6_readLine_27 ⟨Nat.zero_le _, Nat.zero_le _⟩ (fun H locs hP hD hS => ?_)
      obtain ⟨hzb, h⟩ := rb_use h
      obtain ⟨er, ez0, ez1, ez2, ez3, ez4, ez5, ez6, ez7, ez8, ez9, ez10, ez11, ez12, ez13⟩ := rt15_use h
      subst ez0
      subst ez1
      subst ez2
      subst ez3
      subst ez4
      subst ez5
      subst ez6
      subst ez7
      subst ez8
      subst ez9
      subst ez10
      subst ez11
      subst ez12
      subst ez13
      exact re_z hx hb hr hlocks hK hP hD hS hzb er dX6_readLine_30
  · have h := ie_use c1 h
    refine lv_aload_n hx hb dX6_readLine_8 rfl (lv_at hl 0 rfl) ?_
    refine lv_iconst (v := 2) hx hb dX6_readLine_9 (by decide) ?_
    obtain ⟨v73, v74, v75, hc, h⟩ := bd3_use h
    refine cv_i (As := [.int (2 : Int32)]) (rest := []) ⟨hx, hb, hml, hown, hts⟩ (kX6_refuse l n dC dI cB cI cJ cZ a adK adV _ ww_latestFault tp_bytes tp_size rd_fault rd_faultPlace rd_kind rd_start rd_at rd_number dr_letterMarks dr_names dr_spelled dr_rows dr_alike dr_near dr_asks dr_letters dr_words dr_askCount sh_lanes sh_sizes sh_cells la_xs la_ys la_heights la_ridgeXs la_ridgeHeights la_way la_blurs la_steps la_places la_ridges la_wayBlur la_wayLength bk_times bk_froms bk_asks bk_words bk_firsts bk_lies bk_held bk_size nu_learned nu_size to_letterMarks to_names to_spelled to_rows to_alike to_near to_asks to_letters to_words to_askCount (2 : Int32) v73 v74 v75 hc) (cwV 1 hts gX6_readLine_X6_refuse rfl rfl rfl (by decide +kernel) ⟨Nat.le_of_ble_eq_true rfl, Nat.le_of_ble_eq_true rfl⟩) EB_X hE hK hP hD hS hA 3 (ci := 5) rfl rfl rfl rfl hl.1 rfl (Nat.le_of_ble_eq_true rfl) dX6_readLine_10 ⟨Nat.zero_le _, Nat.zero_le _⟩ (fun H locs hP hD hS => ?_)
    obtain ⟨hzb, h⟩ := rb_use h
    obtain ⟨er, ez0, ez1, ez2, ez3, ez4, ez5, ez6, ez7, ez8, ez9, ez10, ez11, ez12, ez13⟩ := rt15_use h
    subst ez0
    subst ez1
    subst ez2
    subst ez3
    subst ez4
    subst ez5
    subst ez6
    subst ez7
    subst ez8
    subst ez9
    subst ez10
    subst ez11
    subst ez12
    subst ez13
    exact re_z hx hb hr hlocks hK hP hD hS hzb er dX6_readLine_13
set_option maxHeartbeats 4000000 in
set_option maxRecDepth 100000 in
theorem kX6_readText_p24_r {p : Program} {l : Launch} {e : Env} {s : State} {m : MethodId} {args : Array Value} {below : List Frame} {meth : Method} {c : Code} {A : Nat → Prop} (dC : Nat → ClassId) (dI : Nat → Nat → Nat) (cB cI cJ cZ : ClassId) (a : Nat → Nat) (adK adV : Nat → Nat) (C0 : cxt cX6_readText (some .boolean) 2 RX6 wsX6_readText (dC, dI) (tyz cB cI cJ cZ) (E_X adK adV) A p s m args meth c) (n : Nat) (ww_latestFault : Int32) (tp_bytes : Nat → Int32) (tp_size : Int32) (dr_alike : Nat → Int32) (dr_near : Nat → Int32) (sh_lanes : Nat → Int32) (sh_sizes : Nat → Int32) (sh_cells : Nat → Int32) (la_xs : Nat → Int32) (la_ys : Nat → Int32) (la_heights : Nat → Int32) (la_ridgeXs : Nat → Int32) (la_ridgeHeights : Nat → Int32) (la_way : Nat → Int32) (la_blurs : Nat → Int32) (la_steps : Nat → Int32) (la_places : Int32) (la_ridges : Int32) (la_wayBlur : Int32) (la_wayLength : Int32) (bk_times : Nat → Int32) (bk_froms : Nat → Int32) (bk_asks : Nat → Int32) (bk_words : Nat → Int32) (bk_firsts : Nat → Int32) (bk_lies : Nat → Int32) (bk_held : Nat → Int32) (bk_size : Int32) (nu_learned : Nat → Int32) (nu_size : Int32) (to_letterMarks : Nat → Int32) (to_names : Nat → Int64) (to_spelled : Nat → Int32) (to_rows : Nat → Int64) (to_alike : Nat → Int32) (to_near : Nat → Int32) (to_asks : Nat → Int32) (to_letters : Int32) (to_words : Int32) (to_askCount : Int32)  (r0 : Int32) (z_rd_fault : Int32) (z_rd_faultPlace : Int32) (z_rd_kind : Int32) (z_rd_start : Int32) (z_rd_at : Int32) (z_rd_number : Int32) (z_dr_letterMarks : Nat → Int32) (z_dr_names : Nat → Int64) (z_dr_spelled : Nat → Int32) (z_dr_rows : Nat → Int64) (z_dr_asks : Nat → Int32) (z_dr_letters : Int32) (z_dr_words : Int32) (z_dr_askCount : Int32)  : ∀ (k : Nat) (rd_fault : Int32) (rd_faultPlace : Int32) (rd_kind : Int32) (rd_start : Int32) (rd_at : Int32) (rd_number : Int32) (dr_letterMarks : Nat → Int32) (dr_names : Nat → Int64) (dr_spelled : Nat → Int32) (dr_rows : Nat → Int64) (dr_asks : Nat → Int32) (dr_letters : Int32) (dr_words : Int32) (dr_askCount : Int32) (x1 : Int32) (H : Heap) (locs : List Loc) (ls : Array Slot), fX6_readText_p24 n tp_bytes tp_size k rd_fault rd_faultPlace rd_kind rd_start rd_at rd_number dr_letterMarks dr_names dr_spelled dr_rows dr_asks dr_letters dr_words dr_askCount x1 = some (r0, z_rd_fault, z_rd_faultPlace, z_rd_kind, z_rd_start, z_rd_at, z_rd_number, z_dr_letterMarks, z_dr_names, z_dr_spelled, z_dr_rows, z_dr_asks, z_dr_letters, z_dr_words, z_dr_askCount) → va_P (dC, dI) vwCl (wX cB cI cJ cZ a (a 35) (a 4) ww_latestFault tp_bytes tp_size rd_fault rd_faultPlace rd_kind rd_start rd_at rd_number dr_letterMarks dr_names dr_spelled dr_rows dr_alike dr_near dr_asks dr_letters dr_words dr_askCount sh_lanes sh_sizes sh_cells la_xs la_ys la_heights la_ridgeXs la_ridgeHeights la_way la_blurs la_steps la_places la_ridges la_wayBlur la_wayLength bk_times bk_froms bk_asks bk_words bk_firsts bk_lies bk_held bk_size nu_learned nu_size to_letterMarks to_names to_spelled to_rows to_alike to_near to_asks to_letters to_words to_askCount) H → va_D A (wX cB cI cJ cZ a (a 35) (a 4) ww_latestFault tp_bytes tp_size rd_fault rd_faultPlace rd_kind rd_start rd_at rd_number dr_letterMarks dr_names dr_spelled dr_rows dr_alike dr_near dr_asks dr_letters dr_words dr_askCount sh_lanes sh_sizes sh_cells la_xs la_ys la_heights la_ridgeXs la_ridgeHeights la_way la_blurs la_steps la_places la_ridges la_wayBlur la_wayLength bk_times bk_froms bk_asks bk_words bk_firsts bk_lies bk_held bk_size nu_learned nu_size to_letterMarks to_names to_spelled to_rows to_alike to_near to_asks to_letters to_words to_askCount) → va_S A s.heap H locs → lv_has ls 2 [(0, .ref (a 3)), (1, .int x1)] → W p l e { frames := 6, cells := 0, slots := 0, locals := 127 } s m args below meth c H locs 0 0 (MQ below (gI (dC, dI) (tyz cB cI cJ cZ) (wX cB cI cJ cZ a (a 35) (a 4) ww_latestFault tp_bytes tp_size z_rd_fault z_rd_faultPlace z_rd_kind z_rd_start z_rd_at z_rd_number z_dr_letterMarks z_dr_names z_dr_spelled z_dr_rows dr_alike dr_near z_dr_asks z_dr_letters z_dr_words z_dr_askCount sh_lanes sh_sizes sh_cells la_xs la_ys la_heights la_ridgeXs la_ridgeHeights la_way la_blurs la_steps la_places la_ridges la_wayBlur la_wayLength bk_times bk_froms bk_asks bk_words bk_firsts bk_lies bk_held bk_size nu_learned nu_size to_letterMarks to_names to_spelled to_rows to_alike to_near to_asks to_letters to_words to_askCount) A r0) args s 0 0 A) (F0 m 24 ls []) := by
  obtain ⟨hx, hb, hr, hml, hown, hts, hlocks, hK, hA, hE⟩ := id C0
  have hw0 := hts (.fieldLink RX6 40 "WhistledWords$TextReader" "kind" "I") (by decide +kernel)
  have hnX6 : ∀ w ∈ u_ws RX6 TX6 8, w ∈ wsX6_readText := fun _ h => List.mem_cons_of_mem _ (List.mem_append_left _ (List.mem_append_left _ (List.mem_append_right _ h)))
  intro k
  induction k with
  | zero =>
    intro rd_fault rd_faultPlace rd_kind rd_start rd_at rd_number dr_letterMarks dr_names dr_spelled dr_rows dr_asks dr_letters dr_words dr_askCount x1 H locs ls h
    cases h
  | succ k ih =>
    intro rd_fault rd_faultPlace rd_kind rd_start rd_at rd_number dr_letterMarks dr_names dr_spelled dr_rows dr_asks dr_letters dr_words dr_askCount x1 H locs ls h hP hD hS hl
    rw [fX6_readText_p24] at h
    refine lv_iload_n hx hb dX6_readText_24 rfl (lv_at hl 1 rfl) ?_
    refine lv_sipush (v := 400) hx hb dX6_readText_25 (by decide) ?_
    refine lv_icmp_gt (tgt := 59) hx hb dX6_readText_28 (by decide) (fun c1 => ?_) (fun c1 => ?_)
    · have h := it_use c1 h
      refine lv_aload_n hx hb dX6_readText_59 rfl (lv_at hl 0 rfl) ?_
      refine lv_iconst (v := 2) hx hb dX6_readText_60 (by decide) ?_
      obtain ⟨v2, v3, v4, hc, h⟩ := bd3_use h
      refine cv_i (As := [.int (2 : Int32)]) (rest := []) ⟨hx, hb, hml, hown, hts⟩ (kX6_refuse l n dC dI cB cI cJ cZ a adK adV _ ww_latestFault tp_bytes tp_size rd_fault rd_faultPlace rd_kind rd_start rd_at rd_number dr_letterMarks dr_names dr_spelled dr_rows dr_alike dr_near dr_asks dr_letters dr_words dr_askCount sh_lanes sh_sizes sh_cells la_xs la_ys la_heights la_ridgeXs la_ridgeHeights la_way la_blurs la_steps la_places la_ridges la_wayBlur la_wayLength bk_times bk_froms bk_asks bk_words bk_firsts bk_lies bk_held bk_size nu_learned nu_size to_letterMarks to_names to_spelled to_rows to_alike to_near to_asks to_letters to_words to_askCount (2 : Int32) v2 v3 v4 hc) (cwV 1 hts gX6_readText_X6_refuse rfl rfl rfl (by decide +kernel) ⟨Nat.le_of_ble_eq_true rfl, Nat.le_of_ble_eq_true rfl⟩) EB_X hE hK hP hD hS hA 3 (ci := 5) rfl rfl rfl rfl hl.1 rfl (Nat.le_of_ble_eq_true rfl) dX6_readText_61 ⟨Nat.zero_le _, Nat.zero_le _⟩ (fun H locs hP hD hS => ?_)
      obtain ⟨hzb, h⟩ := rb_use h
      obtain ⟨er, ez0, ez1, ez2, ez3, ez4, ez5, ez6, ez7, ez8, ez9, ez10, ez11, ez12, ez13⟩ := rt15_use h
      subst ez0
      subst ez1
      subst ez2
      subst ez3
      subst ez4
      subst ez5
      subst ez6
      subst ez7
      subst ez8
      subst ez9
      subst ez10
      subst ez11
      subst ez12
      subst ez13
      exact re_z hx hb hr hlocks hK hP hD hS hzb er dX6_readText_64
    · have h := ie_use c1 h
      refine lv_aload_n hx hb dX6_readText_31 rfl (lv_at hl 0 rfl) ?_
      obtain ⟨v5, v6, v7, v8, hc, h⟩ := bd4_use h
      refine cv_v (As := []) (rest := []) ⟨hx, hb, hml, hown, hts⟩ (kX6_readToken l n dC dI cB cI cJ cZ a adK adV _ ww_latestFault tp_bytes tp_size rd_fault rd_faultPlace rd_kind rd_start rd_at rd_number dr_letterMarks dr_names dr_spelled dr_rows dr_alike dr_near dr_asks dr_letters dr_words dr_askCount sh_lanes sh_sizes sh_cells la_xs la_ys la_heights la_ridgeXs la_ridgeHeights la_way la_blurs la_steps la_places la_ridges la_wayBlur la_wayLength bk_times bk_froms bk_asks bk_words bk_firsts bk_lies bk_held bk_size nu_learned nu_size to_letterMarks to_names to_spelled to_rows to_alike to_near to_asks to_letters to_words to_askCount  v5 v6 v7 v8 hc) (cwV 0 hts gX6_readText_X6_readToken rfl rfl rfl (by decide +kernel) ⟨Nat.le_of_ble_eq_true rfl, Nat.le_of_ble_eq_true rfl⟩) EB_X hE hK hP hD hS hA 3 (ci := 5) rfl rfl rfl rfl hl.1 rfl (Nat.le_of_ble_eq_true rfl) dX6_readText_32 ⟨Nat.zero_le _, Nat.zero_le _⟩ (fun H locs hP hD hS => ?_)
      refine lv_aload_n hx hb dX6_readText_35 rfl (lv_at hl 0 rfl) ?_
      refine gX_reader_kind hx hb hts hnX6 hown hK hP hw0 dX6_readText_36 ?_
      refine lv_if_ne (tgt := 44) hx hb dX6_readText_39 (by decide) (fun c9 => ?_) (fun c9 => ?_)
      · have h := ie_use c9 h
        refine lv_aload_n hx hb dX6_readText_44 rfl (lv_at hl 0 rfl) ?_
        obtain ⟨v10, v11, v12, v13, v14, v15, v16, f17, f18, f19, f20, f21, v22, v23, v24, hc, h⟩ := bd15_use h
        refine cv_i (As := []) (rest := []) ⟨hx, hb, hml, hown, hts⟩ (kX6_readLine l n dC dI cB cI cJ cZ a adK adV _ ww_latestFault tp_bytes tp_size rd_fault rd_faultPlace v5 v6 v7 v8 dr_letterMarks dr_names dr_spelled dr_rows dr_alike dr_near dr_asks dr_letters dr_words dr_askCount sh_lanes sh_sizes sh_cells la_xs la_ys la_heights la_ridgeXs la_ridgeHeights la_way la_blurs la_steps la_places la_ridges la_wayBlur la_wayLength bk_times bk_froms bk_asks bk_words bk_firsts bk_lies bk_held bk_size nu_learned nu_size to_letterMarks to_names to_spelled to_rows to_alike to_near to_asks to_letters to_words to_askCount  v10 v11 v12 v13 v14 v15 v16 f17 f18 f19 f20 f21 v22 v23 v24 hc) (cwV 0 hts gX6_readText_X6_readLine rfl rfl rfl (by decide +kernel) ⟨Nat.le_of_ble_eq_true rfl, Nat.le_of_ble_eq_true rfl⟩) EB_X hE hK hP hD hS hA 3 (ci := 5) rfl rfl rfl rfl hl.1 rfl (Nat.le_of_ble_eq_true rfl) dX6_readText_45 ⟨Nat.zero_le _, Nat.zero_le _⟩ (fun H locs hP hD hS => ?_)
        refine lv_if_ne (tgt := 53) hx hb dX6_readText_48 (by decide) (fun c25 => ?_) (fun c25 => ?_)
        · have h := ie_use c25 h
          refine lv_iinc (v := x1 + 1) (lv' := [(1, .int (x1 + 1)), (0, .ref (a 3))]) hx hb dX6_readText_53 hl (k := 1) rfl rfl (by decide) rfl (fun ls hl => ?_)
          refine lv_goto (tgt := 24) hx hb dX6_readText_56 (by decide) ?_
          exact ih v11 v12 v13 v14 v15 v16 f17 f18 f19 f20 f21 v22 v23 v24 (x1 + 1) _ _ ls h hP hD hS (lv_sub hl [1, 0] rfl)
        · have h := it_use c25 h
          refine lv_iconst (v := 0) hx hb dX6_readText_51 (by decide) ?_
          obtain ⟨er, ez0, ez1, ez2, ez3, ez4, ez5, ez6, ez7, ez8, ez9, ez10, ez11, ez12, ez13⟩ := rt15_use h
          subst ez0
          subst ez1
          subst ez2
          subst ez3
          subst ez4
          subst ez5
          subst ez6
          subst ez7
          subst ez8
          subst ez9
          subst ez10
          subst ez11
          subst ez12
          subst ez13
          exact re_z hx hb hr hlocks hK hP hD hS (Or.inl rfl) er dX6_readText_52
      · have h := it_use c9 h
        refine lv_iconst (v := 1) hx hb dX6_readText_42 (by decide) ?_
        obtain ⟨er, ez0, ez1, ez2, ez3, ez4, ez5, ez6, ez7, ez8, ez9, ez10, ez11, ez12, ez13⟩ := rt15_use h
        subst ez0
        subst ez1
        subst ez2
        subst ez3
        subst ez4
        subst ez5
        subst ez6
        subst ez7
        subst ez8
        subst ez9
        subst ez10
        subst ez11
        subst ez12
        subst ez13
        exact re_z hx hb hr hlocks hK hP hD hS (Or.inr rfl) er dX6_readText_43
theorem kX6_readText_p24 {p : Program} {l : Launch} {e : Env} {s : State} {m : MethodId} {args : Array Value} {below : List Frame} {meth : Method} {c : Code} {A : Nat → Prop} (dC : Nat → ClassId) (dI : Nat → Nat → Nat) (cB cI cJ cZ : ClassId) (a : Nat → Nat) (adK adV : Nat → Nat) (C0 : cxt cX6_readText (some .boolean) 2 RX6 wsX6_readText (dC, dI) (tyz cB cI cJ cZ) (E_X adK adV) A p s m args meth c) (n : Nat) (ww_latestFault : Int32) (tp_bytes : Nat → Int32) (tp_size : Int32) (rd_fault : Int32) (rd_faultPlace : Int32) (rd_kind : Int32) (rd_start : Int32) (rd_at : Int32) (rd_number : Int32) (dr_letterMarks : Nat → Int32) (dr_names : Nat → Int64) (dr_spelled : Nat → Int32) (dr_rows : Nat → Int64) (dr_alike : Nat → Int32) (dr_near : Nat → Int32) (dr_asks : Nat → Int32) (dr_letters : Int32) (dr_words : Int32) (dr_askCount : Int32) (sh_lanes : Nat → Int32) (sh_sizes : Nat → Int32) (sh_cells : Nat → Int32) (la_xs : Nat → Int32) (la_ys : Nat → Int32) (la_heights : Nat → Int32) (la_ridgeXs : Nat → Int32) (la_ridgeHeights : Nat → Int32) (la_way : Nat → Int32) (la_blurs : Nat → Int32) (la_steps : Nat → Int32) (la_places : Int32) (la_ridges : Int32) (la_wayBlur : Int32) (la_wayLength : Int32) (bk_times : Nat → Int32) (bk_froms : Nat → Int32) (bk_asks : Nat → Int32) (bk_words : Nat → Int32) (bk_firsts : Nat → Int32) (bk_lies : Nat → Int32) (bk_held : Nat → Int32) (bk_size : Int32) (nu_learned : Nat → Int32) (nu_size : Int32) (to_letterMarks : Nat → Int32) (to_names : Nat → Int64) (to_spelled : Nat → Int32) (to_rows : Nat → Int64) (to_alike : Nat → Int32) (to_near : Nat → Int32) (to_asks : Nat → Int32) (to_letters : Int32) (to_words : Int32) (to_askCount : Int32)  (x1 : Int32) (r0 : Int32) (z_rd_fault : Int32) (z_rd_faultPlace : Int32) (z_rd_kind : Int32) (z_rd_start : Int32) (z_rd_at : Int32) (z_rd_number : Int32) (z_dr_letterMarks : Nat → Int32) (z_dr_names : Nat → Int64) (z_dr_spelled : Nat → Int32) (z_dr_rows : Nat → Int64) (z_dr_asks : Nat → Int32) (z_dr_letters : Int32) (z_dr_words : Int32) (z_dr_askCount : Int32)  (k : Nat) (H : Heap) (locs : List Loc) (ls : Array Slot) : fX6_readText_p24 n tp_bytes tp_size k rd_fault rd_faultPlace rd_kind rd_start rd_at rd_number dr_letterMarks dr_names dr_spelled dr_rows dr_asks dr_letters dr_words dr_askCount x1 = some (r0, z_rd_fault, z_rd_faultPlace, z_rd_kind, z_rd_start, z_rd_at, z_rd_number, z_dr_letterMarks, z_dr_names, z_dr_spelled, z_dr_rows, z_dr_asks, z_dr_letters, z_dr_words, z_dr_askCount) → va_P (dC, dI) vwCl (wX cB cI cJ cZ a (a 35) (a 4) ww_latestFault tp_bytes tp_size rd_fault rd_faultPlace rd_kind rd_start rd_at rd_number dr_letterMarks dr_names dr_spelled dr_rows dr_alike dr_near dr_asks dr_letters dr_words dr_askCount sh_lanes sh_sizes sh_cells la_xs la_ys la_heights la_ridgeXs la_ridgeHeights la_way la_blurs la_steps la_places la_ridges la_wayBlur la_wayLength bk_times bk_froms bk_asks bk_words bk_firsts bk_lies bk_held bk_size nu_learned nu_size to_letterMarks to_names to_spelled to_rows to_alike to_near to_asks to_letters to_words to_askCount) H → va_D A (wX cB cI cJ cZ a (a 35) (a 4) ww_latestFault tp_bytes tp_size rd_fault rd_faultPlace rd_kind rd_start rd_at rd_number dr_letterMarks dr_names dr_spelled dr_rows dr_alike dr_near dr_asks dr_letters dr_words dr_askCount sh_lanes sh_sizes sh_cells la_xs la_ys la_heights la_ridgeXs la_ridgeHeights la_way la_blurs la_steps la_places la_ridges la_wayBlur la_wayLength bk_times bk_froms bk_asks bk_words bk_firsts bk_lies bk_held bk_size nu_learned nu_size to_letterMarks to_names to_spelled to_rows to_alike to_near to_asks to_letters to_words to_askCount) → va_S A s.heap H locs → lv_has ls 2 [(0, .ref (a 3)), (1, .int x1)] → W p l e { frames := 6, cells := 0, slots := 0, locals := 127 } s m args below meth c H locs 0 0 (MQ below (gI (dC, dI) (tyz cB cI cJ cZ) (wX cB cI cJ cZ a (a 35) (a 4) ww_latestFault tp_bytes tp_size z_rd_fault z_rd_faultPlace z_rd_kind z_rd_start z_rd_at z_rd_number z_dr_letterMarks z_dr_names z_dr_spelled z_dr_rows dr_alike dr_near z_dr_asks z_dr_letters z_dr_words z_dr_askCount sh_lanes sh_sizes sh_cells la_xs la_ys la_heights la_ridgeXs la_ridgeHeights la_way la_blurs la_steps la_places la_ridges la_wayBlur la_wayLength bk_times bk_froms bk_asks bk_words bk_firsts bk_lies bk_held bk_size nu_learned nu_size to_letterMarks to_names to_spelled to_rows to_alike to_near to_asks to_letters to_words to_askCount) A r0) args s 0 0 A) (F0 m 24 ls []) :=
  kX6_readText_p24_r dC dI cB cI cJ cZ a adK adV C0 n ww_latestFault tp_bytes tp_size dr_alike dr_near sh_lanes sh_sizes sh_cells la_xs la_ys la_heights la_ridgeXs la_ridgeHeights la_way la_blurs la_steps la_places la_ridges la_wayBlur la_wayLength bk_times bk_froms bk_asks bk_words bk_firsts bk_lies bk_held bk_size nu_learned nu_size to_letterMarks to_names to_spelled to_rows to_alike to_near to_asks to_letters to_words to_askCount  r0 z_rd_fault z_rd_faultPlace z_rd_kind z_rd_start z_rd_at z_rd_number z_dr_letterMarks z_dr_names z_dr_spelled z_dr_rows z_dr_asks z_dr_letters z_dr_words z_dr_askCount  k rd_fault rd_faultPlace rd_kind rd_start rd_at rd_number dr_letterMarks dr_names dr_spelled dr_rows dr_asks dr_letters dr_words dr_askCount x1 H locs ls
set_option maxHeartbeats 4000000 in
set_option maxRecDepth 100000 in
theorem kX6_readText (l : Launch) (n : Nat) (dC : Nat → ClassId) (dI : Nat → Nat → Nat) (cB cI cJ cZ : ClassId) (a : Nat → Nat) (adK adV : Nat → Nat) (sz : Nat) (ww_latestFault : Int32) (tp_bytes : Nat → Int32) (tp_size : Int32) (rd_fault : Int32) (rd_faultPlace : Int32) (rd_kind : Int32) (rd_start : Int32) (rd_at : Int32) (rd_number : Int32) (dr_letterMarks : Nat → Int32) (dr_names : Nat → Int64) (dr_spelled : Nat → Int32) (dr_rows : Nat → Int64) (dr_alike : Nat → Int32) (dr_near : Nat → Int32) (dr_asks : Nat → Int32) (dr_letters : Int32) (dr_words : Int32) (dr_askCount : Int32) (sh_lanes : Nat → Int32) (sh_sizes : Nat → Int32) (sh_cells : Nat → Int32) (la_xs : Nat → Int32) (la_ys : Nat → Int32) (la_heights : Nat → Int32) (la_ridgeXs : Nat → Int32) (la_ridgeHeights : Nat → Int32) (la_way : Nat → Int32) (la_blurs : Nat → Int32) (la_steps : Nat → Int32) (la_places : Int32) (la_ridges : Int32) (la_wayBlur : Int32) (la_wayLength : Int32) (bk_times : Nat → Int32) (bk_froms : Nat → Int32) (bk_asks : Nat → Int32) (bk_words : Nat → Int32) (bk_firsts : Nat → Int32) (bk_lies : Nat → Int32) (bk_held : Nat → Int32) (bk_size : Int32) (nu_learned : Nat → Int32) (nu_size : Int32) (to_letterMarks : Nat → Int32) (to_names : Nat → Int64) (to_spelled : Nat → Int32) (to_rows : Nat → Int64) (to_alike : Nat → Int32) (to_near : Nat → Int32) (to_asks : Nat → Int32) (to_letters : Int32) (to_words : Int32) (to_askCount : Int32)  (r0 : Int32) (z_rd_fault : Int32) (z_rd_faultPlace : Int32) (z_rd_kind : Int32) (z_rd_start : Int32) (z_rd_at : Int32) (z_rd_number : Int32) (z_dr_letterMarks : Nat → Int32) (z_dr_names : Nat → Int64) (z_dr_spelled : Nat → Int32) (z_dr_rows : Nat → Int64) (z_dr_asks : Nat → Int32) (z_dr_letters : Int32) (z_dr_words : Int32) (z_dr_askCount : Int32) (h : fX6_readText n tp_bytes tp_size rd_fault rd_faultPlace rd_kind rd_start rd_at rd_number dr_letterMarks dr_names dr_spelled dr_rows dr_asks dr_letters dr_words dr_askCount = some (r0, z_rd_fault, z_rd_faultPlace, z_rd_kind, z_rd_start, z_rd_at, z_rd_number, z_dr_letterMarks, z_dr_names, z_dr_spelled, z_dr_rows, z_dr_asks, z_dr_letters, z_dr_words, z_dr_askCount)) : Met l yX6_readText wsX6_readText ({ frames := 6, cells := 0, slots := 0, locals := 127 }) (gP (dC, dI) (tyz cB cI cJ cZ) (E_X adK adV) (wX cB cI cJ cZ a (a 35) (a 4) ww_latestFault tp_bytes tp_size rd_fault rd_faultPlace rd_kind rd_start rd_at rd_number dr_letterMarks dr_names dr_spelled dr_rows dr_alike dr_near dr_asks dr_letters dr_words dr_askCount sh_lanes sh_sizes sh_cells la_xs la_ys la_heights la_ridgeXs la_ridgeHeights la_way la_blurs la_steps la_places la_ridges la_wayBlur la_wayLength bk_times bk_froms bk_asks bk_words bk_firsts bk_lies bk_held bk_size nu_learned nu_size to_letterMarks to_names to_spelled to_rows to_alike to_near to_asks to_letters to_words to_askCount) sz [.ref (a 3)]) (gI (dC, dI) (tyz cB cI cJ cZ) (wX cB cI cJ cZ a (a 35) (a 4) ww_latestFault tp_bytes tp_size z_rd_fault z_rd_faultPlace z_rd_kind z_rd_start z_rd_at z_rd_number z_dr_letterMarks z_dr_names z_dr_spelled z_dr_rows dr_alike dr_near z_dr_asks z_dr_letters z_dr_words z_dr_askCount sh_lanes sh_sizes sh_cells la_xs la_ys la_heights la_ridgeXs la_ridgeHeights la_way la_blurs la_steps la_places la_ridges la_wayBlur la_wayLength bk_times bk_froms bk_asks bk_words bk_firsts bk_lies bk_held bk_size nu_learned nu_size to_letterMarks to_names to_spelled to_rows to_alike to_near to_asks to_letters to_words to_askCount) (va_A (wX cB cI cJ cZ a (a 35) (a 4) ww_latestFault tp_bytes tp_size rd_fault rd_faultPlace rd_kind rd_start rd_at rd_number dr_letterMarks dr_names dr_spelled dr_rows dr_alike dr_near dr_asks dr_letters dr_words dr_askCount sh_lanes sh_sizes sh_cells la_xs la_ys la_heights la_ridgeXs la_ridgeHeights la_way la_blurs la_steps la_places la_ridges la_wayBlur la_wayLength bk_times bk_froms bk_asks bk_words bk_firsts bk_lies bk_held bk_size nu_learned nu_size to_letterMarks to_names to_spelled to_rows to_alike to_near to_asks to_letters to_words to_askCount) sz) r0) 0 0 (va_A (wX cB cI cJ cZ a (a 35) (a 4) ww_latestFault tp_bytes tp_size rd_fault rd_faultPlace rd_kind rd_start rd_at rd_number dr_letterMarks dr_names dr_spelled dr_rows dr_alike dr_near dr_asks dr_letters dr_words dr_askCount sh_lanes sh_sizes sh_cells la_xs la_ys la_heights la_ridgeXs la_ridgeHeights la_way la_blurs la_steps la_places la_ridges la_wayBlur la_wayLength bk_times bk_froms bk_asks bk_words bk_firsts bk_lies bk_held bk_size nu_learned nu_size to_letterMarks to_names to_spelled to_rows to_alike to_near to_asks to_letters to_words to_askCount) sz) := by
  refine Met.ofW (cc := cX6_readText) (maxL := 2) (ret := (some .boolean)) (by decide) rfl ?_
  intro p e s m args below meth c s₁ B hml hv
  obtain ⟨rfl, hsz, hP, hK, hD0, hE⟩ := hv
  have hx := B.exec
  have hb := B.bytes
  have hr := B.returns
  have hts := atoms_spec (ws := wsX6_readText) B.pre
  have hown : s.vm.findClass RX6 = some m.cls := findClass_of_methodNamed B.named
  have hlocks := B.notSynchronized
  subst hsz
  have hD := hD0.self (sz := s.heap.size)
  have hA : ∀ q : Nat, s.heap.size ≤ q → va_A (wX cB cI cJ cZ a (a 35) (a 4) ww_latestFault tp_bytes tp_size rd_fault rd_faultPlace rd_kind rd_start rd_at rd_number dr_letterMarks dr_names dr_spelled dr_rows dr_alike dr_near dr_asks dr_letters dr_words dr_askCount sh_lanes sh_sizes sh_cells la_xs la_ys la_heights la_ridgeXs la_ridgeHeights la_way la_blurs la_steps la_places la_ridges la_wayBlur la_wayLength bk_times bk_froms bk_asks bk_words bk_firsts bk_lies bk_held bk_size nu_learned nu_size to_letterMarks to_names to_spelled to_rows to_alike to_near to_asks to_letters to_words to_askCount) s.heap.size q := fun q h => Or.inr h
  generalize va_A (wX cB cI cJ cZ a (a 35) (a 4) ww_latestFault tp_bytes tp_size rd_fault rd_faultPlace rd_kind rd_start rd_at rd_number dr_letterMarks dr_names dr_spelled dr_rows dr_alike dr_near dr_asks dr_letters dr_words dr_askCount sh_lanes sh_sizes sh_cells la_xs la_ys la_heights la_ridgeXs la_ridgeHeights la_way la_blurs la_steps la_places la_ridges la_wayBlur la_wayLength bk_times bk_froms bk_asks bk_words bk_firsts bk_lies bk_held bk_size nu_learned nu_size to_letterMarks to_names to_spelled to_rows to_alike to_near to_asks to_letters to_words to_askCount) s.heap.size = A at hD hA hE ⊢
  have hS : va_S A s.heap s.heap [] := va_S.rf
  have C0 : cxt cX6_readText (some .boolean) 2 RX6 wsX6_readText (dC, dI) (tyz cB cI cJ cZ) (E_X adK adV) A p s m ([.ref (a 3)] : List Value).toArray meth c := ⟨hx, hb, hr, hml, hown, hts, hlocks, hK, hA, hE⟩
  have hl := lv_entry ([.ref (a 3)]) (n := 2) (Nat.le_of_ble_eq_true rfl)
  rw [lg_entry_eq]
  generalize (lg_sl ([.ref (a 3)]) ++ List.replicate (2 - (lg_sl ([.ref (a 3)])).length) Slot.unset).toArray = ls at hl ⊢
  have hl : lv_has ls 2 [(0, .ref (a 3))] := hl
  have hw0 := hts (.fieldLink RX6 18 "WhistledWords$TextReader" "draft" "LWhistledWords$Tongue;") (by decide +kernel)
  have hw1 := hts (.fieldLink RX6 25 "WhistledWords$TextReader" "fault" "I") (by decide +kernel)
  have hw2 := hts (.fieldLink RX6 29 "WhistledWords$TextReader" "faultPlace" "I") (by decide +kernel)
  have hw3 := hts (.fieldLink RX6 32 "WhistledWords$TextReader" "at" "I") (by decide +kernel)
  have hnX6 : ∀ w ∈ u_ws RX6 TX6 8, w ∈ wsX6_readText := fun _ h => List.mem_cons_of_mem _ (List.mem_append_left _ (List.mem_append_left _ (List.mem_append_right _ h)))
  unfold fX6_readText at h
  refine lv_aload_n hx hb dX6_readText_0 rfl (lv_at hl 0 rfl) ?_
  refine gX_reader_draft hx hb hts hnX6 hown hK hP hw0 dX6_readText_1 ?_
  obtain ⟨f1, v2, v3, v4, hc, h⟩ := bd4_use h
  refine cv_v (As := []) (rest := []) ⟨hx, hb, hml, hown, hts⟩ (kX7_forget_D l n dC dI cB cI cJ cZ a adK adV _ ww_latestFault tp_bytes tp_size rd_fault rd_faultPlace rd_kind rd_start rd_at rd_number dr_letterMarks dr_names dr_spelled dr_rows dr_alike dr_near dr_asks dr_letters dr_words dr_askCount sh_lanes sh_sizes sh_cells la_xs la_ys la_heights la_ridgeXs la_ridgeHeights la_way la_blurs la_steps la_places la_ridges la_wayBlur la_wayLength bk_times bk_froms bk_asks bk_words bk_firsts bk_lies bk_held bk_size nu_learned nu_size to_letterMarks to_names to_spelled to_rows to_alike to_near to_asks to_letters to_words to_askCount  f1 v2 v3 v4 hc) (cwV 0 hts gX6_readText_X7_forget rfl rfl rfl (by decide +kernel) ⟨Nat.le_of_ble_eq_true rfl, Nat.le_of_ble_eq_true rfl⟩) EB_X hE hK hP hD hS hA 4 (ci := 6) rfl rfl rfl rfl hl.1 rfl (Nat.le_of_ble_eq_true rfl) dX6_readText_4 ⟨Nat.zero_le _, Nat.zero_le _⟩ (fun H locs hP hD hS => ?_)
  refine lv_aload_n hx hb dX6_readText_7 rfl (lv_at hl 0 rfl) ?_
  refine lv_iconst (v := 0) hx hb dX6_readText_8 (by decide) ?_
  refine pX_reader_fault hx hb hts hnX6 hown hK hP hD hS hw1 dX6_readText_9 (fun H locs hP hD hS => ?_)
  refine lv_aload_n hx hb dX6_readText_12 rfl (lv_at hl 0 rfl) ?_
  refine lv_iconst (v := 0) hx hb dX6_readText_13 (by decide) ?_
  refine pX_reader_faultPlace hx hb hts hnX6 hown hK hP hD hS hw2 dX6_readText_14 (fun H locs hP hD hS => ?_)
  refine lv_aload_n hx hb dX6_readText_17 rfl (lv_at hl 0 rfl) ?_
  refine lv_iconst (v := 0) hx hb dX6_readText_18 (by decide) ?_
  refine pX_reader_at hx hb hts hnX6 hown hK hP hD hS hw3 dX6_readText_19 (fun H locs hP hD hS => ?_)
  refine lv_iconst (v := 0) hx hb dX6_readText_22 (by decide) ?_
  refine lv_istore_n (lv' := [(1, .int (0 : Int32)), (0, .ref (a 3))]) hx hb dX6_readText_23 rfl hl (by decide) rfl (fun ls hl => ?_)
  exact kX6_readText_p24 dC dI cB cI cJ cZ a adK adV C0 n ww_latestFault tp_bytes tp_size (0 : Int32) (0 : Int32) rd_kind rd_start (0 : Int32) rd_number f1 dr_names dr_spelled dr_rows dr_alike dr_near dr_asks v2 v3 v4 sh_lanes sh_sizes sh_cells la_xs la_ys la_heights la_ridgeXs la_ridgeHeights la_way la_blurs la_steps la_places la_ridges la_wayBlur la_wayLength bk_times bk_froms bk_asks bk_words bk_firsts bk_lies bk_held bk_size nu_learned nu_size to_letterMarks to_names to_spelled to_rows to_alike to_near to_asks to_letters to_words to_askCount (0 : Int32) r0 z_rd_fault z_rd_faultPlace z_rd_kind z_rd_start z_rd_at z_rd_number z_dr_letterMarks z_dr_names z_dr_spelled z_dr_rows z_dr_asks z_dr_letters z_dr_words z_dr_askCount  n _ _ ls h hP hD hS (lv_sub hl [1, 0] rfl)
set_option maxHeartbeats 4000000 in
set_option maxRecDepth 100000 in
theorem kX3_blurMark (l : Launch) (n : Nat) (x0 : Int32) (x1 : Int32) (r0 : Int32) (h : fX3_blurMark n  x0 x1 = some r0) : Met l yX3_blurMark wsX3_blurMark ({ frames := 0, cells := 0, slots := 0, locals := 0 }) (pP [.int x0, .int x1]) (pI r0) 0 0 no_A := by
  refine Met.ofW (cc := cX3_blurMark) (maxL := 3) (ret := (some .int)) (by decide) rfl ?_
  intro p e s m args below meth c s₁ B hml hv
  obtain ⟨rfl, -⟩ := hv
  have hx := B.exec
  have hb := B.bytes
  have hr := B.returns
  have hts := atoms_spec (ws := wsX3_blurMark) B.pre
  have hown : s.vm.findClass RX3 = some m.cls := findClass_of_methodNamed B.named
  have hlocks := B.notSynchronized
  have hS : va_S no_A s.heap s.heap [] := va_S.rf
  have C0 : cxp cX3_blurMark (some .int) 3 RX3 wsX3_blurMark p s m ([.int x0, .int x1] : List Value).toArray meth c := ⟨hx, hb, hr, hml, hown, hts, hlocks⟩
  have hl := lv_entry ([.int x0, .int x1]) (n := 3) (Nat.le_of_ble_eq_true rfl)
  rw [lg_entry_eq]
  generalize (lg_sl ([.int x0, .int x1]) ++ List.replicate (3 - (lg_sl ([.int x0, .int x1])).length) Slot.unset).toArray = ls at hl ⊢
  have hl : lv_has ls 3 [(0, .int x0), (1, .int x1)] := hl
  unfold fX3_blurMark at h
  refine lv_iload_n hx hb dX3_blurMark_0 rfl (lv_at hl 0 rfl) ?_
  refine lv_bipush (v := 16) hx hb dX3_blurMark_1 (by decide) ?_
  refine lv_icmp_ge (tgt := 10) hx hb dX3_blurMark_3 (by decide) (fun c1 => ?_) (fun c1 => ?_)
  · have h := it_use c1 h
    refine lv_iload_n hx hb dX3_blurMark_10 rfl (lv_at hl 1 rfl) ?_
    refine lv_iconst (v := 4) hx hb dX3_blurMark_11 (by decide) ?_
    refine lv_icmp_lt (tgt := 18) hx hb dX3_blurMark_12 (by decide) (fun c2 => ?_) (fun c2 => ?_)
    · have h := it_use c2 h
      refine lv_iload_n hx hb dX3_blurMark_18 rfl (lv_at hl 0 rfl) ?_
      refine lv_bipush (v := 20) hx hb dX3_blurMark_19 (by decide) ?_
      refine lv_icmp_ne (tgt := 37) hx hb dX3_blurMark_21 (by decide) (fun c3 => ?_) (fun c3 => ?_)
      · have h := ie_use c3 h
        refine lv_iload_n hx hb dX3_blurMark_37 rfl (lv_at hl 1 rfl) ?_
        refine lv_iconst (v := 2) hx hb dX3_blurMark_38 (by decide) ?_
        refine lv_icmp_ge (tgt := 46) hx hb dX3_blurMark_39 (by decide) (fun c4 => ?_) (fun c4 => ?_)
        · have h := it_use c4 h
          refine lv_iconst (v := 0) hx hb dX3_blurMark_46 (by decide) ?_
          refine lv_istore_n (lv' := [(2, .int (0 : Int32)), (0, .int x0), (1, .int x1)]) hx hb dX3_blurMark_47 rfl hl (by decide) rfl (fun ls hl => ?_)
          refine lv_iload_n hx hb dX3_blurMark_48 rfl (lv_at hl 0 rfl) ?_
          refine lv_if_eq (tgt := 56) hx hb dX3_blurMark_49 (by decide) (fun c5 => ?_) (fun c5 => ?_)
          · have h := it_use c5 h
            refine lv_bipush (v := 16) hx hb dX3_blurMark_56 (by decide) ?_
            obtain er := rt1_use h
            exact rp_i hx hb hr hlocks hS er dX3_blurMark_58
          · have h := ie_use c5 h
            refine lv_iload_n hx hb dX3_blurMark_52 rfl (lv_at hl 1 rfl) ?_
            refine lv_goto (tgt := 58) hx hb dX3_blurMark_53 (by decide) ?_
            obtain er := rt1_use h
            exact rp_i hx hb hr hlocks hS er dX3_blurMark_58
        · have h := ie_use c4 h
          refine lv_iconst (v := 1) hx hb dX3_blurMark_42 (by decide) ?_
          refine lv_goto (tgt := 47) hx hb dX3_blurMark_43 (by decide) ?_
          refine lv_istore_n (lv' := [(2, .int (1 : Int32)), (0, .int x0), (1, .int x1)]) hx hb dX3_blurMark_47 rfl hl (by decide) rfl (fun ls hl => ?_)
          refine lv_iload_n hx hb dX3_blurMark_48 rfl (lv_at hl 0 rfl) ?_
          refine lv_if_eq (tgt := 56) hx hb dX3_blurMark_49 (by decide) (fun c6 => ?_) (fun c6 => ?_)
          · have h := it_use c6 h
            refine lv_bipush (v := 16) hx hb dX3_blurMark_56 (by decide) ?_
            obtain er := rt1_use h
            exact rp_i hx hb hr hlocks hS er dX3_blurMark_58
          · have h := ie_use c6 h
            refine lv_iload_n hx hb dX3_blurMark_52 rfl (lv_at hl 1 rfl) ?_
            refine lv_goto (tgt := 58) hx hb dX3_blurMark_53 (by decide) ?_
            obtain er := rt1_use h
            exact rp_i hx hb hr hlocks hS er dX3_blurMark_58
      · have h := it_use c3 h
        refine lv_iload_n hx hb dX3_blurMark_24 rfl (lv_at hl 1 rfl) ?_
        refine lv_iconst (v := 3) hx hb dX3_blurMark_25 (by decide) ?_
        refine lv_icmp_ge (tgt := 33) hx hb dX3_blurMark_26 (by decide) (fun c7 => ?_) (fun c7 => ?_)
        · have h := it_use c7 h
          refine lv_iconst (v := 0) hx hb dX3_blurMark_33 (by decide) ?_
          refine lv_goto (tgt := 47) hx hb dX3_blurMark_34 (by decide) ?_
          refine lv_istore_n (lv' := [(2, .int (0 : Int32)), (0, .int x0), (1, .int x1)]) hx hb dX3_blurMark_47 rfl hl (by decide) rfl (fun ls hl => ?_)
          refine lv_iload_n hx hb dX3_blurMark_48 rfl (lv_at hl 0 rfl) ?_
          refine lv_if_eq (tgt := 56) hx hb dX3_blurMark_49 (by decide) (fun c8 => ?_) (fun c8 => ?_)
          · have h := it_use c8 h
            refine lv_bipush (v := 16) hx hb dX3_blurMark_56 (by decide) ?_
            obtain er := rt1_use h
            exact rp_i hx hb hr hlocks hS er dX3_blurMark_58
          · have h := ie_use c8 h
            refine lv_iload_n hx hb dX3_blurMark_52 rfl (lv_at hl 1 rfl) ?_
            refine lv_goto (tgt := 58) hx hb dX3_blurMark_53 (by decide) ?_
            obtain er := rt1_use h
            exact rp_i hx hb hr hlocks hS er dX3_blurMark_58
        · have h := ie_use c7 h
          refine lv_iconst (v := 1) hx hb dX3_blurMark_29 (by decide) ?_
          refine lv_goto (tgt := 47) hx hb dX3_blurMark_30 (by decide) ?_
          refine lv_istore_n (lv' := [(2, .int (1 : Int32)), (0, .int x0), (1, .int x1)]) hx hb dX3_blurMark_47 rfl hl (by decide) rfl (fun ls hl => ?_)
          refine lv_iload_n hx hb dX3_blurMark_48 rfl (lv_at hl 0 rfl) ?_
          refine lv_if_eq (tgt := 56) hx hb dX3_blurMark_49 (by decide) (fun c9 => ?_) (fun c9 => ?_)
          · have h := it_use c9 h
            refine lv_bipush (v := 16) hx hb dX3_blurMark_56 (by decide) ?_
            obtain er := rt1_use h
            exact rp_i hx hb hr hlocks hS er dX3_blurMark_58
          · have h := ie_use c9 h
            refine lv_iload_n hx hb dX3_blurMark_52 rfl (lv_at hl 1 rfl) ?_
            refine lv_goto (tgt := 58) hx hb dX3_blurMark_53 (by decide) ?_
            obtain er := rt1_use h
            exact rp_i hx hb hr hlocks hS er dX3_blurMark_58
    · have h := ie_use c2 h
      refine lv_bipush (v := -4) hx hb dX3_blurMark_15 (by decide) ?_
      obtain er := rt1_use h
      exact rp_i hx hb hr hlocks hS er dX3_blurMark_17
  · have h := ie_use c1 h
    refine lv_iload_n hx hb dX3_blurMark_6 rfl (lv_at hl 0 rfl) ?_
    refine lv_iload_n hx hb dX3_blurMark_7 rfl (lv_at hl 1 rfl) ?_
    refine lv_ishr hx hb dX3_blurMark_8 ?_
    obtain er := rt1_use h
    exact rp_i hx hb hr hlocks hS er dX3_blurMark_9
set_option maxHeartbeats 4000000 in
set_option maxRecDepth 100000 in
theorem kX3_blurRow_p54 {p : Program} {l : Launch} {e : Env} {s : State} {m : MethodId} {args : Array Value} {below : List Frame} {meth : Method} {c : Code} (C0 : cxp cX3_blurRow (some .long) 11 RX3 wsX3_blurRow p s m args meth c) (n : Nat)  (x0 : Int64) (x2 : Int32) (x3 : Int64) (x5 : Int32) (x6 : Int32) (x7 : Int32) (x8 : Int32) (x9 : Int32) (s0 : Int32) (r0 : Int64) (rec18 : Int64 → Int32 → Int32 → Int32 → Option (Int64)) (hrec18 : ∀ (y_x3 : Int64) (y_x5 : Int32) (y_x6 : Int32) (y_x8 : Int32) (H : Heap) (locs : List Loc) (ls : Array Slot), rec18 y_x3 y_x5 y_x6 y_x8 = some r0 → va_S no_A s.heap H locs → lv_has ls 11 [(0, .long x0), (2, .int x2), (3, .long y_x3), (5, .int y_x5), (6, .int y_x6), (7, .int x7), (8, .int y_x8)] → W p l e { frames := 2, cells := 0, slots := 0, locals := 45 } s m args below meth c H locs 0 0 (MQ below (pL r0) args s 0 0 no_A) (F0 m 18 ls [])) (H : Heap) (locs : List Loc) (ls : Array Slot) : fX3_blurRow_p54 n x0 x2 x3 x5 x6 x7 x8 x9 s0 rec18 = some r0 → va_S no_A s.heap H locs → lv_has ls 11 [(0, .long x0), (2, .int x2), (3, .long x3), (5, .int x5), (6, .int x6), (7, .int x7), (8, .int x8), (9, .int x9)] → W p l e { frames := 2, cells := 0, slots := 0, locals := 45 } s m args below meth c H locs 0 0 (MQ below (pL r0) args s 0 0 no_A) (F0 m 54 ls [.int s0]) := by
  intro h hS hl
  obtain ⟨hx, hb, hr, hml, hown, hts, hlocks⟩ := id C0
  unfold fX3_blurRow_p54 at h
  refine lv_istore (lv' := [(10, .int s0), (0, .long x0), (2, .int x2), (3, .long x3), (5, .int x5), (6, .int x6), (7, .int x7), (8, .int x8), (9, .int x9)]) hx hb dX3_blurRow_54 hl (by decide) rfl (fun ls hl => ?_)
  refine lv_iload hx hb dX3_blurRow_56 (lv_at hl 8 rfl) ?_
  refine lv_bipush (v := -4) hx hb dX3_blurRow_58 (by decide) ?_
  refine lv_icmp_eq (tgt := 84) hx hb dX3_blurRow_60 (by decide) (fun c1 => ?_) (fun c1 => ?_)
  · have h := it_use c1 h
    refine lv_iinc (v := x8 + 1) (lv' := [(8, .int (x8 + 1)), (10, .int s0), (0, .long x0), (2, .int x2), (3, .long x3), (5, .int x5), (6, .int x6), (7, .int x7), (9, .int x9)]) hx hb dX3_blurRow_84 hl (k := 7) rfl rfl (by decide) rfl (fun ls hl => ?_)
    refine lv_goto (tgt := 18) hx hb dX3_blurRow_87 (by decide) ?_
    exact hrec18 x3 x5 x6 (x8 + 1) _ _ ls h hS (lv_sub hl [2, 3, 4, 5, 6, 7, 0] rfl)
  · have h := ie_use c1 h
    refine lv_iload hx hb dX3_blurRow_63 (lv_at hl 0 rfl) ?_
    refine lv_if_ne (tgt := 84) hx hb dX3_blurRow_65 (by decide) (fun c2 => ?_) (fun c2 => ?_)
    · have h := ie_use c2 h
      refine lv_iinc (v := x8 + 1) (lv' := [(8, .int (x8 + 1)), (10, .int s0), (0, .long x0), (2, .int x2), (3, .long x3), (5, .int x5), (6, .int x6), (7, .int x7), (9, .int x9)]) hx hb dX3_blurRow_84 hl (k := 7) rfl rfl (by decide) rfl (fun ls hl => ?_)
      refine lv_goto (tgt := 18) hx hb dX3_blurRow_87 (by decide) ?_
      exact hrec18 x3 x5 x6 (x8 + 1) _ _ ls h hS (lv_sub hl [2, 3, 4, 5, 6, 7, 0] rfl)
    · have h := it_use c2 h
      refine lv_lload_n hx hb dX3_blurRow_68 rfl (lv_at hl 3 rfl) ?_
      refine lv_iload hx hb dX3_blurRow_69 (lv_at hl 4 rfl) ?_
      refine lv_iload hx hb dX3_blurRow_71 (lv_at hl 8 rfl) ?_
      obtain ⟨v3, hc, h⟩ := bd1_use h
      refine cp_l (As := [.long x3, .int x5, .int x9]) (rest := []) ⟨hx, hb, hml, hown, hts⟩ (kX3_with l n x3 x5 x9 v3 hc) (va_cwS 3 hts gX3_blurRow_X3_with rfl rfl rfl (by decide +kernel) ⟨Nat.le_of_ble_eq_true rfl, Nat.le_of_ble_eq_true rfl⟩) hS rfl hl.1 rfl (Nat.le_of_ble_eq_true rfl) dX3_blurRow_73 ⟨Nat.zero_le _, Nat.zero_le _⟩ (fun H locs hS => ?_)
      refine lv_lstore_n (lv' := [(3, .long v3), (10, .int s0), (0, .long x0), (2, .int x2), (5, .int x5), (6, .int x6), (7, .int x7), (8, .int x8), (9, .int x9)]) hx hb dX3_blurRow_76 rfl hl (by decide) rfl (fun ls hl => ?_)
      refine lv_iinc (v := x5 + 1) (lv' := [(5, .int (x5 + 1)), (3, .long v3), (10, .int s0), (0, .long x0), (2, .int x2), (6, .int x6), (7, .int x7), (8, .int x8), (9, .int x9)]) hx hb dX3_blurRow_77 hl (k := 4) rfl rfl (by decide) rfl (fun ls hl => ?_)
      refine lv_iload hx hb dX3_blurRow_80 (lv_at hl 8 rfl) ?_
      refine lv_istore (lv' := [(6, .int x9), (5, .int (x5 + 1)), (3, .long v3), (10, .int s0), (0, .long x0), (2, .int x2), (7, .int x7), (8, .int x8), (9, .int x9)]) hx hb dX3_blurRow_82 hl (by decide) rfl (fun ls hl => ?_)
      refine lv_iinc (v := x8 + 1) (lv' := [(8, .int (x8 + 1)), (6, .int x9), (5, .int (x5 + 1)), (3, .long v3), (10, .int s0), (0, .long x0), (2, .int x2), (7, .int x7), (9, .int x9)]) hx hb dX3_blurRow_84 hl (k := 7) rfl rfl (by decide) rfl (fun ls hl => ?_)
      refine lv_goto (tgt := 18) hx hb dX3_blurRow_87 (by decide) ?_
      exact hrec18 v3 (x5 + 1) x9 (x8 + 1) _ _ ls h hS (lv_sub hl [5, 6, 3, 2, 1, 7, 0] rfl)
set_option maxHeartbeats 4000000 in
set_option maxRecDepth 100000 in
theorem kX3_blurRow_p18_r {p : Program} {l : Launch} {e : Env} {s : State} {m : MethodId} {args : Array Value} {below : List Frame} {meth : Method} {c : Code} (C0 : cxp cX3_blurRow (some .long) 11 RX3 wsX3_blurRow p s m args meth c) (n : Nat)  (x0 : Int64) (x2 : Int32) (x7 : Int32) (r0 : Int64)  : ∀ (k : Nat) (x3 : Int64) (x5 : Int32) (x6 : Int32) (x8 : Int32) (H : Heap) (locs : List Loc) (ls : Array Slot), fX3_blurRow_p18 n x0 x2 x7 k x3 x5 x6 x8 = some r0 → va_S no_A s.heap H locs → lv_has ls 11 [(0, .long x0), (2, .int x2), (3, .long x3), (5, .int x5), (6, .int x6), (7, .int x7), (8, .int x8)] → W p l e { frames := 2, cells := 0, slots := 0, locals := 45 } s m args below meth c H locs 0 0 (MQ below (pL r0) args s 0 0 no_A) (F0 m 18 ls []) := by
  obtain ⟨hx, hb, hr, hml, hown, hts, hlocks⟩ := id C0
  intro k
  induction k with
  | zero =>
    intro x3 x5 x6 x8 H locs ls h
    cases h
  | succ k ih =>
    intro x3 x5 x6 x8 H locs ls h hS hl
    rw [fX3_blurRow_p18] at h
    refine lv_iload hx hb dX3_blurRow_18 (lv_at hl 6 rfl) ?_
    refine lv_iload hx hb dX3_blurRow_20 (lv_at hl 5 rfl) ?_
    refine lv_icmp_ge (tgt := 90) hx hb dX3_blurRow_22 (by decide) (fun c1 => ?_) (fun c1 => ?_)
    · have h := it_use c1 h
      refine lv_lload_n hx hb dX3_blurRow_90 rfl (lv_at hl 2 rfl) ?_
      obtain er := rt1_use h
      exact rp_l hx hb hr hlocks hS er dX3_blurRow_91
    · have h := ie_use c1 h
      refine lv_lload_n hx hb dX3_blurRow_25 rfl (lv_at hl 0 rfl) ?_
      refine lv_iload hx hb dX3_blurRow_26 (lv_at hl 6 rfl) ?_
      obtain ⟨v2, hc, h⟩ := bd1_use h
      refine cp_i (As := [.long x0, .int x8]) (rest := []) ⟨hx, hb, hml, hown, hts⟩ (kX3_markAt l n x0 x8 v2 hc) (va_cwS 2 hts gX3_blurRow_X3_markAt rfl rfl rfl (by decide +kernel) ⟨Nat.le_of_ble_eq_true rfl, Nat.le_of_ble_eq_true rfl⟩) hS rfl hl.1 rfl (Nat.le_of_ble_eq_true rfl) dX3_blurRow_28 ⟨Nat.zero_le _, Nat.zero_le _⟩ (fun H locs hS => ?_)
      refine lv_iload_n hx hb dX3_blurRow_31 rfl (lv_at hl 1 rfl) ?_
      obtain ⟨v3, hc, h⟩ := bd1_use h
      refine cp_i (As := [.int v2, .int x2]) (rest := []) ⟨hx, hb, hml, hown, hts⟩ (kX3_blurMark l n v2 x2 v3 hc) (va_cwS 2 hts gX3_blurRow_X3_blurMark rfl rfl rfl (by decide +kernel) ⟨Nat.le_of_ble_eq_true rfl, Nat.le_of_ble_eq_true rfl⟩) hS rfl hl.1 rfl (Nat.le_of_ble_eq_true rfl) dX3_blurRow_32 ⟨Nat.zero_le _, Nat.zero_le _⟩ (fun H locs hS => ?_)
      refine lv_istore (lv' := [(9, .int v3), (0, .long x0), (2, .int x2), (3, .long x3), (5, .int x5), (6, .int x6), (7, .int x7), (8, .int x8)]) hx hb dX3_blurRow_35 hl (by decide) rfl (fun ls hl => ?_)
      refine lv_iload_n hx hb dX3_blurRow_37 rfl (lv_at hl 2 rfl) ?_
      refine lv_iconst (v := 3) hx hb dX3_blurRow_38 (by decide) ?_
      refine lv_icmp_lt (tgt := 53) hx hb dX3_blurRow_39 (by decide) (fun c4 => ?_) (fun c4 => ?_)
      · have h := it_use c4 h
        refine lv_iconst (v := 0) hx hb dX3_blurRow_53 (by decide) ?_
        exact kX3_blurRow_p54 C0 n  x0 x2 x3 x5 x6 x7 x8 v3 (0 : Int32) r0 (fX3_blurRow_p18 n x0 x2 x7 k) ih _ _ ls h hS (lv_sub hl [1, 2, 3, 4, 5, 6, 7, 0] rfl)
      · have h := ie_use c4 h
        refine lv_iload hx hb dX3_blurRow_42 (lv_at hl 0 rfl) ?_
        refine lv_iload hx hb dX3_blurRow_44 (lv_at hl 5 rfl) ?_
        refine lv_icmp_ne (tgt := 53) hx hb dX3_blurRow_46 (by decide) (fun c5 => ?_) (fun c5 => ?_)
        · have h := ie_use c5 h
          refine lv_iconst (v := 0) hx hb dX3_blurRow_53 (by decide) ?_
          exact kX3_blurRow_p54 C0 n  x0 x2 x3 x5 x6 x7 x8 v3 (0 : Int32) r0 (fX3_blurRow_p18 n x0 x2 x7 k) ih _ _ ls h hS (lv_sub hl [1, 2, 3, 4, 5, 6, 7, 0] rfl)
        · have h := it_use c5 h
          refine lv_iconst (v := 1) hx hb dX3_blurRow_49 (by decide) ?_
          refine lv_goto (tgt := 54) hx hb dX3_blurRow_50 (by decide) ?_
          exact kX3_blurRow_p54 C0 n  x0 x2 x3 x5 x6 x7 x8 v3 (1 : Int32) r0 (fX3_blurRow_p18 n x0 x2 x7 k) ih _ _ ls h hS (lv_sub hl [1, 2, 3, 4, 5, 6, 7, 0] rfl)
theorem kX3_blurRow_p18 {p : Program} {l : Launch} {e : Env} {s : State} {m : MethodId} {args : Array Value} {below : List Frame} {meth : Method} {c : Code} (C0 : cxp cX3_blurRow (some .long) 11 RX3 wsX3_blurRow p s m args meth c) (n : Nat)  (x0 : Int64) (x2 : Int32) (x3 : Int64) (x5 : Int32) (x6 : Int32) (x7 : Int32) (x8 : Int32) (r0 : Int64)  (k : Nat) (H : Heap) (locs : List Loc) (ls : Array Slot) : fX3_blurRow_p18 n x0 x2 x7 k x3 x5 x6 x8 = some r0 → va_S no_A s.heap H locs → lv_has ls 11 [(0, .long x0), (2, .int x2), (3, .long x3), (5, .int x5), (6, .int x6), (7, .int x7), (8, .int x8)] → W p l e { frames := 2, cells := 0, slots := 0, locals := 45 } s m args below meth c H locs 0 0 (MQ below (pL r0) args s 0 0 no_A) (F0 m 18 ls []) :=
  kX3_blurRow_p18_r C0 n  x0 x2 x7 r0  k x3 x5 x6 x8 H locs ls
set_option maxHeartbeats 4000000 in
set_option maxRecDepth 100000 in
theorem kX3_blurRow (l : Launch) (n : Nat) (x0 : Int64) (x2 : Int32) (r0 : Int64) (h : fX3_blurRow n  x0 x2 = some r0) : Met l yX3_blurRow wsX3_blurRow ({ frames := 2, cells := 0, slots := 0, locals := 45 }) (pP [.long x0, .int x2]) (pL r0) 0 0 no_A := by
  refine Met.ofW (cc := cX3_blurRow) (maxL := 11) (ret := (some .long)) (by decide) rfl ?_
  intro p e s m args below meth c s₁ B hml hv
  obtain ⟨rfl, -⟩ := hv
  have hx := B.exec
  have hb := B.bytes
  have hr := B.returns
  have hts := atoms_spec (ws := wsX3_blurRow) B.pre
  have hown : s.vm.findClass RX3 = some m.cls := findClass_of_methodNamed B.named
  have hlocks := B.notSynchronized
  have hS : va_S no_A s.heap s.heap [] := va_S.rf
  have C0 : cxp cX3_blurRow (some .long) 11 RX3 wsX3_blurRow p s m ([.long x0, .int x2] : List Value).toArray meth c := ⟨hx, hb, hr, hml, hown, hts, hlocks⟩
  have hl := lv_entry ([.long x0, .int x2]) (n := 11) (Nat.le_of_ble_eq_true rfl)
  rw [lg_entry_eq]
  generalize (lg_sl ([.long x0, .int x2]) ++ List.replicate (11 - (lg_sl ([.long x0, .int x2])).length) Slot.unset).toArray = ls at hl ⊢
  have hl : lv_has ls 11 [(0, .long x0), (2, .int x2)] := hl
  unfold fX3_blurRow at h
  refine lv_lconst (v := 0) hx hb dX3_blurRow_0 (by decide) ?_
  refine lv_lstore_n (lv' := [(3, .long (0 : Int64)), (0, .long x0), (2, .int x2)]) hx hb dX3_blurRow_1 rfl hl (by decide) rfl (fun ls hl => ?_)
  refine lv_iconst (v := 0) hx hb dX3_blurRow_2 (by decide) ?_
  refine lv_istore (lv' := [(5, .int (0 : Int32)), (3, .long (0 : Int64)), (0, .long x0), (2, .int x2)]) hx hb dX3_blurRow_3 hl (by decide) rfl (fun ls hl => ?_)
  refine lv_bipush (v := -4) hx hb dX3_blurRow_5 (by decide) ?_
  refine lv_istore (lv' := [(6, .int (-4 : Int32)), (5, .int (0 : Int32)), (3, .long (0 : Int64)), (0, .long x0), (2, .int x2)]) hx hb dX3_blurRow_7 hl (by decide) rfl (fun ls hl => ?_)
  refine lv_lload_n hx hb dX3_blurRow_9 rfl (lv_at hl 3 rfl) ?_
  obtain ⟨v1, hc, h⟩ := bd1_use h
  refine cp_i (As := [.long x0]) (rest := []) ⟨hx, hb, hml, hown, hts⟩ (kX3_length l n x0 v1 hc) (va_cwS 1 hts gX3_blurRow_X3_length rfl rfl rfl (by decide +kernel) ⟨Nat.le_of_ble_eq_true rfl, Nat.le_of_ble_eq_true rfl⟩) hS rfl hl.1 rfl (Nat.le_of_ble_eq_true rfl) dX3_blurRow_10 ⟨Nat.zero_le _, Nat.zero_le _⟩ (fun H locs hS => ?_)
  refine lv_istore (lv' := [(7, .int v1), (6, .int (-4 : Int32)), (5, .int (0 : Int32)), (3, .long (0 : Int64)), (0, .long x0), (2, .int x2)]) hx hb dX3_blurRow_13 hl (by decide) rfl (fun ls hl => ?_)
  refine lv_iconst (v := 0) hx hb dX3_blurRow_15 (by decide) ?_
  refine lv_istore (lv' := [(8, .int (0 : Int32)), (7, .int v1), (6, .int (-4 : Int32)), (5, .int (0 : Int32)), (3, .long (0 : Int64)), (0, .long x0), (2, .int x2)]) hx hb dX3_blurRow_16 hl (by decide) rfl (fun ls hl => ?_)
  exact kX3_blurRow_p18 C0 n  x0 x2 (0 : Int64) (0 : Int32) (-4 : Int32) v1 (0 : Int32) r0  n _ _ ls h hS (lv_sub hl [5, 6, 4, 3, 2, 1, 0] rfl)
set_option maxHeartbeats 4000000 in
set_option maxRecDepth 100000 in
theorem kX3_differInOne_p19_r {p : Program} {l : Launch} {e : Env} {s : State} {m : MethodId} {args : Array Value} {below : List Frame} {meth : Method} {c : Code} (C0 : cxp cX3_differInOne (some .boolean) 6 RX3 wsX3_differInOne p s m args meth c) (n : Nat)  (x0 : Int64) (x2 : Int64) (r0 : Int32)  : ∀ (k : Nat) (x4 : Int32) (x5 : Int32) (H : Heap) (locs : List Loc) (ls : Array Slot), fX3_differInOne_p19 n x0 x2 k x4 x5 = some r0 → va_S no_A s.heap H locs → lv_has ls 6 [(0, .long x0), (2, .long x2), (4, .int x4), (5, .int x5)] → W p l e { frames := 2, cells := 0, slots := 0, locals := 45 } s m args below meth c H locs 0 0 (MQ below (pI r0) args s 0 0 no_A) (F0 m 19 ls []) := by
  obtain ⟨hx, hb, hr, hml, hown, hts, hlocks⟩ := id C0
  intro k
  induction k with
  | zero =>
    intro x4 x5 H locs ls h
    cases h
  | succ k ih =>
    intro x4 x5 H locs ls h hS hl
    rw [fX3_differInOne_p19] at h
    refine lv_iload hx hb dX3_differInOne_19 (lv_at hl 3 rfl) ?_
    refine lv_bipush (v := 8) hx hb dX3_differInOne_21 (by decide) ?_
    refine lv_icmp_ge (tgt := 50) hx hb dX3_differInOne_23 (by decide) (fun c1 => ?_) (fun c1 => ?_)
    · have h := it_use c1 h
      refine lv_iload hx hb dX3_differInOne_50 (lv_at hl 2 rfl) ?_
      refine lv_iconst (v := 1) hx hb dX3_differInOne_52 (by decide) ?_
      refine lv_icmp_ne (tgt := 60) hx hb dX3_differInOne_53 (by decide) (fun c2 => ?_) (fun c2 => ?_)
      · have h := ie_use c2 h
        refine lv_iconst (v := 0) hx hb dX3_differInOne_60 (by decide) ?_
        obtain er := rt1_use h
        exact rp_z hx hb hr hlocks hS (Or.inl rfl) er dX3_differInOne_61
      · have h := it_use c2 h
        refine lv_iconst (v := 1) hx hb dX3_differInOne_56 (by decide) ?_
        refine lv_goto (tgt := 61) hx hb dX3_differInOne_57 (by decide) ?_
        obtain er := rt1_use h
        exact rp_z hx hb hr hlocks hS (Or.inr rfl) er dX3_differInOne_61
    · have h := ie_use c1 h
      refine lv_lload_n hx hb dX3_differInOne_26 rfl (lv_at hl 0 rfl) ?_
      refine lv_iload hx hb dX3_differInOne_27 (lv_at hl 3 rfl) ?_
      obtain ⟨v3, hc, h⟩ := bd1_use h
      refine cp_i (As := [.long x0, .int x5]) (rest := []) ⟨hx, hb, hml, hown, hts⟩ (kX3_markAt l n x0 x5 v3 hc) (va_cwS 2 hts gX3_differInOne_X3_markAt rfl rfl rfl (by decide +kernel) ⟨Nat.le_of_ble_eq_true rfl, Nat.le_of_ble_eq_true rfl⟩) hS rfl hl.1 rfl (Nat.le_of_ble_eq_true rfl) dX3_differInOne_29 ⟨Nat.zero_le _, Nat.zero_le _⟩ (fun H locs hS => ?_)
      refine lv_lload_n hx hb dX3_differInOne_32 rfl (lv_at hl 1 rfl) ?_
      refine lv_iload hx hb dX3_differInOne_33 (lv_at hl 3 rfl) ?_
      obtain ⟨v4, hc, h⟩ := bd1_use h
      refine cp_i (As := [.long x2, .int x5]) (rest := [.int v3]) ⟨hx, hb, hml, hown, hts⟩ (kX3_markAt l n x2 x5 v4 hc) (va_cwS 2 hts gX3_differInOne_X3_markAt rfl rfl rfl (by decide +kernel) ⟨Nat.le_of_ble_eq_true rfl, Nat.le_of_ble_eq_true rfl⟩) hS rfl hl.1 rfl (Nat.le_of_ble_eq_true rfl) dX3_differInOne_35 ⟨Nat.zero_le _, Nat.zero_le _⟩ (fun H locs hS => ?_)
      refine lv_icmp_eq (tgt := 44) hx hb dX3_differInOne_38 (by decide) (fun c5 => ?_) (fun c5 => ?_)
      · have h := it_use c5 h
        refine lv_iinc (v := x5 + 1) (lv' := [(5, .int (x5 + 1)), (0, .long x0), (2, .long x2), (4, .int x4)]) hx hb dX3_differInOne_44 hl (k := 3) rfl rfl (by decide) rfl (fun ls hl => ?_)
        refine lv_goto (tgt := 19) hx hb dX3_differInOne_47 (by decide) ?_
        exact ih x4 (x5 + 1) _ _ ls h hS (lv_sub hl [1, 2, 3, 0] rfl)
      · have h := ie_use c5 h
        refine lv_iinc (v := x4 + 1) (lv' := [(4, .int (x4 + 1)), (0, .long x0), (2, .long x2), (5, .int x5)]) hx hb dX3_differInOne_41 hl (k := 2) rfl rfl (by decide) rfl (fun ls hl => ?_)
        refine lv_iinc (v := x5 + 1) (lv' := [(5, .int (x5 + 1)), (4, .int (x4 + 1)), (0, .long x0), (2, .long x2)]) hx hb dX3_differInOne_44 hl (k := 3) rfl rfl (by decide) rfl (fun ls hl => ?_)
        refine lv_goto (tgt := 19) hx hb dX3_differInOne_47 (by decide) ?_
        exact ih (x4 + 1) (x5 + 1) _ _ ls h hS (lv_sub hl [2, 3, 1, 0] rfl)
theorem kX3_differInOne_p19 {p : Program} {l : Launch} {e : Env} {s : State} {m : MethodId} {args : Array Value} {below : List Frame} {meth : Method} {c : Code} (C0 : cxp cX3_differInOne (some .boolean) 6 RX3 wsX3_differInOne p s m args meth c) (n : Nat)  (x0 : Int64) (x2 : Int64) (x4 : Int32) (x5 : Int32) (r0 : Int32)  (k : Nat) (H : Heap) (locs : List Loc) (ls : Array Slot) : fX3_differInOne_p19 n x0 x2 k x4 x5 = some r0 → va_S no_A s.heap H locs → lv_has ls 6 [(0, .long x0), (2, .long x2), (4, .int x4), (5, .int x5)] → W p l e { frames := 2, cells := 0, slots := 0, locals := 45 } s m args below meth c H locs 0 0 (MQ below (pI r0) args s 0 0 no_A) (F0 m 19 ls []) :=
  kX3_differInOne_p19_r C0 n  x0 x2 r0  k x4 x5 H locs ls
set_option maxHeartbeats 4000000 in
set_option maxRecDepth 100000 in
theorem kX3_differInOne (l : Launch) (n : Nat) (x0 : Int64) (x2 : Int64) (r0 : Int32) (h : fX3_differInOne n  x0 x2 = some r0) : Met l yX3_differInOne wsX3_differInOne ({ frames := 2, cells := 0, slots := 0, locals := 45 }) (pP [.long x0, .long x2]) (pI r0) 0 0 no_A := by
  refine Met.ofW (cc := cX3_differInOne) (maxL := 6) (ret := (some .boolean)) (by decide) rfl ?_
  intro p e s m args below meth c s₁ B hml hv
  obtain ⟨rfl, -⟩ := hv
  have hx := B.exec
  have hb := B.bytes
  have hr := B.returns
  have hts := atoms_spec (ws := wsX3_differInOne) B.pre
  have hown : s.vm.findClass RX3 = some m.cls := findClass_of_methodNamed B.named
  have hlocks := B.notSynchronized
  have hS : va_S no_A s.heap s.heap [] := va_S.rf
  have C0 : cxp cX3_differInOne (some .boolean) 6 RX3 wsX3_differInOne p s m ([.long x0, .long x2] : List Value).toArray meth c := ⟨hx, hb, hr, hml, hown, hts, hlocks⟩
  have hl := lv_entry ([.long x0, .long x2]) (n := 6) (Nat.le_of_ble_eq_true rfl)
  rw [lg_entry_eq]
  generalize (lg_sl ([.long x0, .long x2]) ++ List.replicate (6 - (lg_sl ([.long x0, .long x2])).length) Slot.unset).toArray = ls at hl ⊢
  have hl : lv_has ls 6 [(0, .long x0), (2, .long x2)] := hl
  unfold fX3_differInOne at h
  refine lv_lload_n hx hb dX3_differInOne_0 rfl (lv_at hl 0 rfl) ?_
  obtain ⟨v1, hc, h⟩ := bd1_use h
  refine cp_i (As := [.long x0]) (rest := []) ⟨hx, hb, hml, hown, hts⟩ (kX3_length l n x0 v1 hc) (va_cwS 1 hts gX3_differInOne_X3_length rfl rfl rfl (by decide +kernel) ⟨Nat.le_of_ble_eq_true rfl, Nat.le_of_ble_eq_true rfl⟩) hS rfl hl.1 rfl (Nat.le_of_ble_eq_true rfl) dX3_differInOne_1 ⟨Nat.zero_le _, Nat.zero_le _⟩ (fun H locs hS => ?_)
  refine lv_lload_n hx hb dX3_differInOne_4 rfl (lv_at hl 1 rfl) ?_
  obtain ⟨v2, hc, h⟩ := bd1_use h
  refine cp_i (As := [.long x2]) (rest := [.int v1]) ⟨hx, hb, hml, hown, hts⟩ (kX3_length l n x2 v2 hc) (va_cwS 1 hts gX3_differInOne_X3_length rfl rfl rfl (by decide +kernel) ⟨Nat.le_of_ble_eq_true rfl, Nat.le_of_ble_eq_true rfl⟩) hS rfl hl.1 rfl (Nat.le_of_ble_eq_true rfl) dX3_differInOne_5 ⟨Nat.zero_le _, Nat.zero_le _⟩ (fun H locs hS => ?_)
  refine lv_icmp_eq (tgt := 13) hx hb dX3_differInOne_8 (by decide) (fun c3 => ?_) (fun c3 => ?_)
  · have h := it_use c3 h
    refine lv_iconst (v := 0) hx hb dX3_differInOne_13 (by decide) ?_
    refine lv_istore (lv' := [(4, .int (0 : Int32)), (0, .long x0), (2, .long x2)]) hx hb dX3_differInOne_14 hl (by decide) rfl (fun ls hl => ?_)
    refine lv_iconst (v := 0) hx hb dX3_differInOne_16 (by decide) ?_
    refine lv_istore (lv' := [(5, .int (0 : Int32)), (4, .int (0 : Int32)), (0, .long x0), (2, .long x2)]) hx hb dX3_differInOne_17 hl (by decide) rfl (fun ls hl => ?_)
    exact kX3_differInOne_p19 C0 n  x0 x2 (0 : Int32) (0 : Int32) r0  n _ _ ls h hS (lv_sub hl [2, 3, 1, 0] rfl)
  · have h := ie_use c3 h
    refine lv_iconst (v := 0) hx hb dX3_differInOne_11 (by decide) ?_
    obtain er := rt1_use h
    exact rp_z hx hb hr hlocks hS (Or.inl rfl) er dX3_differInOne_12
set_option maxHeartbeats 4000000 in
set_option maxRecDepth 100000 in
theorem kX7_differingInOneFrom_p4_r {p : Program} {l : Launch} {e : Env} {s : State} {m : MethodId} {args : Array Value} {below : List Frame} {meth : Method} {c : Code} {A : Nat → Prop} (dC : Nat → ClassId) (dI : Nat → Nat → Nat) (cB cI cJ cZ : ClassId) (a : Nat → Nat) (adK adV : Nat → Nat) (C0 : cxt cX7_differingInOneFrom (some .int) 4 RX7 wsX7_differingInOneFrom (dC, dI) (tyz cB cI cJ cZ) (E_X adK adV) A p s m args meth c) (n : Nat) (ww_latestFault : Int32) (tp_bytes : Nat → Int32) (tp_size : Int32) (rd_fault : Int32) (rd_faultPlace : Int32) (rd_kind : Int32) (rd_start : Int32) (rd_at : Int32) (rd_number : Int32) (dr_letterMarks : Nat → Int32) (dr_names : Nat → Int64) (dr_spelled : Nat → Int32) (dr_rows : Nat → Int64) (dr_alike : Nat → Int32) (dr_near : Nat → Int32) (dr_asks : Nat → Int32) (dr_letters : Int32) (dr_words : Int32) (dr_askCount : Int32) (sh_lanes : Nat → Int32) (sh_sizes : Nat → Int32) (sh_cells : Nat → Int32) (la_xs : Nat → Int32) (la_ys : Nat → Int32) (la_heights : Nat → Int32) (la_ridgeXs : Nat → Int32) (la_ridgeHeights : Nat → Int32) (la_way : Nat → Int32) (la_blurs : Nat → Int32) (la_steps : Nat → Int32) (la_places : Int32) (la_ridges : Int32) (la_wayBlur : Int32) (la_wayLength : Int32) (bk_times : Nat → Int32) (bk_froms : Nat → Int32) (bk_asks : Nat → Int32) (bk_words : Nat → Int32) (bk_firsts : Nat → Int32) (bk_lies : Nat → Int32) (bk_held : Nat → Int32) (bk_size : Int32) (nu_learned : Nat → Int32) (nu_size : Int32) (to_letterMarks : Nat → Int32) (to_names : Nat → Int64) (to_spelled : Nat → Int32) (to_rows : Nat → Int64) (to_alike : Nat → Int32) (to_near : Nat → Int32) (to_asks : Nat → Int32) (to_letters : Int32) (to_words : Int32) (to_askCount : Int32) (x1 : Int32) (r0 : Int32)  : ∀ (k : Nat) (x2 : Int32) (x3 : Int32) (H : Heap) (locs : List Loc) (ls : Array Slot), fX7_differingInOneFrom_p4 n to_rows to_words x1 k x2 x3 = some r0 → va_P (dC, dI) vwCl (wX cB cI cJ cZ a (a 35) (a 4) ww_latestFault tp_bytes tp_size rd_fault rd_faultPlace rd_kind rd_start rd_at rd_number dr_letterMarks dr_names dr_spelled dr_rows dr_alike dr_near dr_asks dr_letters dr_words dr_askCount sh_lanes sh_sizes sh_cells la_xs la_ys la_heights la_ridgeXs la_ridgeHeights la_way la_blurs la_steps la_places la_ridges la_wayBlur la_wayLength bk_times bk_froms bk_asks bk_words bk_firsts bk_lies bk_held bk_size nu_learned nu_size to_letterMarks to_names to_spelled to_rows to_alike to_near to_asks to_letters to_words to_askCount) H → va_D A (wX cB cI cJ cZ a (a 35) (a 4) ww_latestFault tp_bytes tp_size rd_fault rd_faultPlace rd_kind rd_start rd_at rd_number dr_letterMarks dr_names dr_spelled dr_rows dr_alike dr_near dr_asks dr_letters dr_words dr_askCount sh_lanes sh_sizes sh_cells la_xs la_ys la_heights la_ridgeXs la_ridgeHeights la_way la_blurs la_steps la_places la_ridges la_wayBlur la_wayLength bk_times bk_froms bk_asks bk_words bk_firsts bk_lies bk_held bk_size nu_learned nu_size to_letterMarks to_names to_spelled to_rows to_alike to_near to_asks to_letters to_words to_askCount) → va_S A s.heap H locs → lv_has ls 4 [(0, .ref (a 35)), (1, .int x1), (2, .int x2), (3, .int x3)] → W p l e { frames := 3, cells := 0, slots := 0, locals := 70 } s m args below meth c H locs 0 0 (MQ below (gI (dC, dI) (tyz cB cI cJ cZ) (wX cB cI cJ cZ a (a 35) (a 4) ww_latestFault tp_bytes tp_size rd_fault rd_faultPlace rd_kind rd_start rd_at rd_number dr_letterMarks dr_names dr_spelled dr_rows dr_alike dr_near dr_asks dr_letters dr_words dr_askCount sh_lanes sh_sizes sh_cells la_xs la_ys la_heights la_ridgeXs la_ridgeHeights la_way la_blurs la_steps la_places la_ridges la_wayBlur la_wayLength bk_times bk_froms bk_asks bk_words bk_firsts bk_lies bk_held bk_size nu_learned nu_size to_letterMarks to_names to_spelled to_rows to_alike to_near to_asks to_letters to_words to_askCount) A r0) args s 0 0 A) (F0 m 4 ls []) := by
  obtain ⟨hx, hb, hr, hml, hown, hts, hlocks, hK, hA, hE⟩ := id C0
  have hw0 := hts (.fieldLink RX7 44 "WhistledWords$Tongue" "words" "I") (by decide +kernel)
  have hw1 := hts (.fieldLink RX7 28 "WhistledWords$Tongue" "rows" "[J") (by decide +kernel)
  have hnX7 : ∀ w ∈ u_ws RX7 TX7 10, w ∈ wsX7_differingInOneFrom := fun _ h => List.mem_cons_of_mem _ (List.mem_append_right _ h)
  intro k
  induction k with
  | zero =>
    intro x2 x3 H locs ls h
    cases h
  | succ k ih =>
    intro x2 x3 H locs ls h hP hD hS hl
    rw [fX7_differingInOneFrom_p4] at h
    refine lv_iload_n hx hb dX7_differingInOneFrom_4 rfl (lv_at hl 3 rfl) ?_
    refine lv_aload_n hx hb dX7_differingInOneFrom_5 rfl (lv_at hl 0 rfl) ?_
    refine gX_told_words hx hb hts hnX7 hown hK hP hw0 dX7_differingInOneFrom_6 ?_
    refine lv_icmp_ge (tgt := 42) hx hb dX7_differingInOneFrom_9 (by decide) (fun c1 => ?_) (fun c1 => ?_)
    · have h := it_use c1 h
      refine lv_iload_n hx hb dX7_differingInOneFrom_42 rfl (lv_at hl 2 rfl) ?_
      obtain er := rt1_use h
      exact re_i hx hb hr hlocks hK hP hD hS er dX7_differingInOneFrom_43
    · have h := ie_use c1 h
      refine lv_aload_n hx hb dX7_differingInOneFrom_12 rfl (lv_at hl 0 rfl) ?_
      refine gX_told_rows hx hb hts hnX7 hown hK hP hw1 dX7_differingInOneFrom_13 ?_
      refine lv_iload_n hx hb dX7_differingInOneFrom_16 rfl (lv_at hl 3 rfl) ?_
      obtain ⟨hiv2, h⟩ := ar_use h
      refine lX_told_rows hx hb hK hP hiv2 dX7_differingInOneFrom_17 ?_
      refine lv_topl (fun v2 ev2 => ?_)
      have h := h v2 ev2
      refine lv_aload_n hx hb dX7_differingInOneFrom_18 rfl (lv_at hl 0 rfl) ?_
      refine gX_told_rows hx hb hts hnX7 hown hK hP hw1 dX7_differingInOneFrom_19 ?_
      refine lv_iload_n hx hb dX7_differingInOneFrom_22 rfl (lv_at hl 1 rfl) ?_
      obtain ⟨hiv3, h⟩ := ar_use h
      refine lX_told_rows hx hb hK hP hiv3 dX7_differingInOneFrom_23 ?_
      refine lv_topl (fun v3 ev3 => ?_)
      have h := h v3 ev3
      obtain ⟨v4, hc, h⟩ := bd1_use h
      refine cs_i (As := [.long v2, .long v3]) (rest := []) ⟨hx, hb, hml, hown, hts⟩ (kX3_differInOne l n v2 v3 v4 hc) (va_cwS 2 hts gX7_differingInOneFrom_X3_differInOne rfl rfl rfl (by decide +kernel) ⟨Nat.le_of_ble_eq_true rfl, Nat.le_of_ble_eq_true rfl⟩) hP hS rfl hl.1 rfl (Nat.le_of_ble_eq_true rfl) dX7_differingInOneFrom_24 ⟨Nat.zero_le _, Nat.zero_le _⟩ (fun H locs hP hS => ?_)
      refine lv_if_eq (tgt := 36) hx hb dX7_differingInOneFrom_27 (by decide) (fun c5 => ?_) (fun c5 => ?_)
      · have h := it_use c5 h
        refine lv_iinc (v := x3 + 1) (lv' := [(3, .int (x3 + 1)), (0, .ref (a 35)), (1, .int x1), (2, .int x2)]) hx hb dX7_differingInOneFrom_36 hl (k := 3) rfl rfl (by decide) rfl (fun ls hl => ?_)
        refine lv_goto (tgt := 4) hx hb dX7_differingInOneFrom_39 (by decide) ?_
        exact ih x2 (x3 + 1) _ _ ls h hP hD hS (lv_sub hl [1, 2, 3, 0] rfl)
      · have h := ie_use c5 h
        refine lv_iload_n hx hb dX7_differingInOneFrom_30 rfl (lv_at hl 2 rfl) ?_
        refine lv_iconst (v := 1) hx hb dX7_differingInOneFrom_31 (by decide) ?_
        refine lv_iload_n hx hb dX7_differingInOneFrom_32 rfl (lv_at hl 3 rfl) ?_
        refine lv_ishl hx hb dX7_differingInOneFrom_33 ?_
        refine lv_ior hx hb dX7_differingInOneFrom_34 ?_
        refine lv_topi (fun v6 ev6 => ?_)
        have h := nm_use ev6 h
        refine lv_istore_n (lv' := [(2, .int v6), (0, .ref (a 35)), (1, .int x1), (3, .int x3)]) hx hb dX7_differingInOneFrom_35 rfl hl (by decide) rfl (fun ls hl => ?_)
        refine lv_iinc (v := x3 + 1) (lv' := [(3, .int (x3 + 1)), (2, .int v6), (0, .ref (a 35)), (1, .int x1)]) hx hb dX7_differingInOneFrom_36 hl (k := 3) rfl rfl (by decide) rfl (fun ls hl => ?_)
        refine lv_goto (tgt := 4) hx hb dX7_differingInOneFrom_39 (by decide) ?_
        exact ih v6 (x3 + 1) _ _ ls h hP hD hS (lv_sub hl [2, 3, 1, 0] rfl)
theorem kX7_differingInOneFrom_p4 {p : Program} {l : Launch} {e : Env} {s : State} {m : MethodId} {args : Array Value} {below : List Frame} {meth : Method} {c : Code} {A : Nat → Prop} (dC : Nat → ClassId) (dI : Nat → Nat → Nat) (cB cI cJ cZ : ClassId) (a : Nat → Nat) (adK adV : Nat → Nat) (C0 : cxt cX7_differingInOneFrom (some .int) 4 RX7 wsX7_differingInOneFrom (dC, dI) (tyz cB cI cJ cZ) (E_X adK adV) A p s m args meth c) (n : Nat) (ww_latestFault : Int32) (tp_bytes : Nat → Int32) (tp_size : Int32) (rd_fault : Int32) (rd_faultPlace : Int32) (rd_kind : Int32) (rd_start : Int32) (rd_at : Int32) (rd_number : Int32) (dr_letterMarks : Nat → Int32) (dr_names : Nat → Int64) (dr_spelled : Nat → Int32) (dr_rows : Nat → Int64) (dr_alike : Nat → Int32) (dr_near : Nat → Int32) (dr_asks : Nat → Int32) (dr_letters : Int32) (dr_words : Int32) (dr_askCount : Int32) (sh_lanes : Nat → Int32) (sh_sizes : Nat → Int32) (sh_cells : Nat → Int32) (la_xs : Nat → Int32) (la_ys : Nat → Int32) (la_heights : Nat → Int32) (la_ridgeXs : Nat → Int32) (la_ridgeHeights : Nat → Int32) (la_way : Nat → Int32) (la_blurs : Nat → Int32) (la_steps : Nat → Int32) (la_places : Int32) (la_ridges : Int32) (la_wayBlur : Int32) (la_wayLength : Int32) (bk_times : Nat → Int32) (bk_froms : Nat → Int32) (bk_asks : Nat → Int32) (bk_words : Nat → Int32) (bk_firsts : Nat → Int32) (bk_lies : Nat → Int32) (bk_held : Nat → Int32) (bk_size : Int32) (nu_learned : Nat → Int32) (nu_size : Int32) (to_letterMarks : Nat → Int32) (to_names : Nat → Int64) (to_spelled : Nat → Int32) (to_rows : Nat → Int64) (to_alike : Nat → Int32) (to_near : Nat → Int32) (to_asks : Nat → Int32) (to_letters : Int32) (to_words : Int32) (to_askCount : Int32)  (x1 : Int32) (x2 : Int32) (x3 : Int32) (r0 : Int32)  (k : Nat) (H : Heap) (locs : List Loc) (ls : Array Slot) : fX7_differingInOneFrom_p4 n to_rows to_words x1 k x2 x3 = some r0 → va_P (dC, dI) vwCl (wX cB cI cJ cZ a (a 35) (a 4) ww_latestFault tp_bytes tp_size rd_fault rd_faultPlace rd_kind rd_start rd_at rd_number dr_letterMarks dr_names dr_spelled dr_rows dr_alike dr_near dr_asks dr_letters dr_words dr_askCount sh_lanes sh_sizes sh_cells la_xs la_ys la_heights la_ridgeXs la_ridgeHeights la_way la_blurs la_steps la_places la_ridges la_wayBlur la_wayLength bk_times bk_froms bk_asks bk_words bk_firsts bk_lies bk_held bk_size nu_learned nu_size to_letterMarks to_names to_spelled to_rows to_alike to_near to_asks to_letters to_words to_askCount) H → va_D A (wX cB cI cJ cZ a (a 35) (a 4) ww_latestFault tp_bytes tp_size rd_fault rd_faultPlace rd_kind rd_start rd_at rd_number dr_letterMarks dr_names dr_spelled dr_rows dr_alike dr_near dr_asks dr_letters dr_words dr_askCount sh_lanes sh_sizes sh_cells la_xs la_ys la_heights la_ridgeXs la_ridgeHeights la_way la_blurs la_steps la_places la_ridges la_wayBlur la_wayLength bk_times bk_froms bk_asks bk_words bk_firsts bk_lies bk_held bk_size nu_learned nu_size to_letterMarks to_names to_spelled to_rows to_alike to_near to_asks to_letters to_words to_askCount) → va_S A s.heap H locs → lv_has ls 4 [(0, .ref (a 35)), (1, .int x1), (2, .int x2), (3, .int x3)] → W p l e { frames := 3, cells := 0, slots := 0, locals := 70 } s m args below meth c H locs 0 0 (MQ below (gI (dC, dI) (tyz cB cI cJ cZ) (wX cB cI cJ cZ a (a 35) (a 4) ww_latestFault tp_bytes tp_size rd_fault rd_faultPlace rd_kind rd_start rd_at rd_number dr_letterMarks dr_names dr_spelled dr_rows dr_alike dr_near dr_asks dr_letters dr_words dr_askCount sh_lanes sh_sizes sh_cells la_xs la_ys la_heights la_ridgeXs la_ridgeHeights la_way la_blurs la_steps la_places la_ridges la_wayBlur la_wayLength bk_times bk_froms bk_asks bk_words bk_firsts bk_lies bk_held bk_size nu_learned nu_size to_letterMarks to_names to_spelled to_rows to_alike to_near to_asks to_letters to_words to_askCount) A r0) args s 0 0 A) (F0 m 4 ls []) :=
  kX7_differingInOneFrom_p4_r dC dI cB cI cJ cZ a adK adV C0 n ww_latestFault tp_bytes tp_size rd_fault rd_faultPlace rd_kind rd_start rd_at rd_number dr_letterMarks dr_names dr_spelled dr_rows dr_alike dr_near dr_asks dr_letters dr_words dr_askCount sh_lanes sh_sizes sh_cells la_xs la_ys la_heights la_ridgeXs la_ridgeHeights la_way la_blurs la_steps la_places la_ridges la_wayBlur la_wayLength bk_times bk_froms bk_asks bk_words bk_firsts bk_lies bk_held bk_size nu_learned nu_size to_letterMarks to_names to_spelled to_rows to_alike to_near to_asks to_letters to_words to_askCount x1 r0  k x2 x3 H locs ls
set_option maxHeartbeats 4000000 in
set_option maxRecDepth 100000 in
theorem kX7_differingInOneFrom (l : Launch) (n : Nat) (dC : Nat → ClassId) (dI : Nat → Nat → Nat) (cB cI cJ cZ : ClassId) (a : Nat → Nat) (adK adV : Nat → Nat) (sz : Nat) (ww_latestFault : Int32) (tp_bytes : Nat → Int32) (tp_size : Int32) (rd_fault : Int32) (rd_faultPlace : Int32) (rd_kind : Int32) (rd_start : Int32) (rd_at : Int32) (rd_number : Int32) (dr_letterMarks : Nat → Int32) (dr_names : Nat → Int64) (dr_spelled : Nat → Int32) (dr_rows : Nat → Int64) (dr_alike : Nat → Int32) (dr_near : Nat → Int32) (dr_asks : Nat → Int32) (dr_letters : Int32) (dr_words : Int32) (dr_askCount : Int32) (sh_lanes : Nat → Int32) (sh_sizes : Nat → Int32) (sh_cells : Nat → Int32) (la_xs : Nat → Int32) (la_ys : Nat → Int32) (la_heights : Nat → Int32) (la_ridgeXs : Nat → Int32) (la_ridgeHeights : Nat → Int32) (la_way : Nat → Int32) (la_blurs : Nat → Int32) (la_steps : Nat → Int32) (la_places : Int32) (la_ridges : Int32) (la_wayBlur : Int32) (la_wayLength : Int32) (bk_times : Nat → Int32) (bk_froms : Nat → Int32) (bk_asks : Nat → Int32) (bk_words : Nat → Int32) (bk_firsts : Nat → Int32) (bk_lies : Nat → Int32) (bk_held : Nat → Int32) (bk_size : Int32) (nu_learned : Nat → Int32) (nu_size : Int32) (to_letterMarks : Nat → Int32) (to_names : Nat → Int64) (to_spelled : Nat → Int32) (to_rows : Nat → Int64) (to_alike : Nat → Int32) (to_near : Nat → Int32) (to_asks : Nat → Int32) (to_letters : Int32) (to_words : Int32) (to_askCount : Int32) (x1 : Int32) (r0 : Int32) (h : fX7_differingInOneFrom n to_rows to_words x1 = some r0) : Met l yX7_differingInOneFrom wsX7_differingInOneFrom ({ frames := 3, cells := 0, slots := 0, locals := 70 }) (gP (dC, dI) (tyz cB cI cJ cZ) (E_X adK adV) (wX cB cI cJ cZ a (a 35) (a 4) ww_latestFault tp_bytes tp_size rd_fault rd_faultPlace rd_kind rd_start rd_at rd_number dr_letterMarks dr_names dr_spelled dr_rows dr_alike dr_near dr_asks dr_letters dr_words dr_askCount sh_lanes sh_sizes sh_cells la_xs la_ys la_heights la_ridgeXs la_ridgeHeights la_way la_blurs la_steps la_places la_ridges la_wayBlur la_wayLength bk_times bk_froms bk_asks bk_words bk_firsts bk_lies bk_held bk_size nu_learned nu_size to_letterMarks to_names to_spelled to_rows to_alike to_near to_asks to_letters to_words to_askCount) sz [.ref (a 35), .int x1]) (gI (dC, dI) (tyz cB cI cJ cZ) (wX cB cI cJ cZ a (a 35) (a 4) ww_latestFault tp_bytes tp_size rd_fault rd_faultPlace rd_kind rd_start rd_at rd_number dr_letterMarks dr_names dr_spelled dr_rows dr_alike dr_near dr_asks dr_letters dr_words dr_askCount sh_lanes sh_sizes sh_cells la_xs la_ys la_heights la_ridgeXs la_ridgeHeights la_way la_blurs la_steps la_places la_ridges la_wayBlur la_wayLength bk_times bk_froms bk_asks bk_words bk_firsts bk_lies bk_held bk_size nu_learned nu_size to_letterMarks to_names to_spelled to_rows to_alike to_near to_asks to_letters to_words to_askCount) (va_A (wX cB cI cJ cZ a (a 35) (a 4) ww_latestFault tp_bytes tp_size rd_fault rd_faultPlace rd_kind rd_start rd_at rd_number dr_letterMarks dr_names dr_spelled dr_rows dr_alike dr_near dr_asks dr_letters dr_words dr_askCount sh_lanes sh_sizes sh_cells la_xs la_ys la_heights la_ridgeXs la_ridgeHeights la_way la_blurs la_steps la_places la_ridges la_wayBlur la_wayLength bk_times bk_froms bk_asks bk_words bk_firsts bk_lies bk_held bk_size nu_learned nu_size to_letterMarks to_names to_spelled to_rows to_alike to_near to_asks to_letters to_words to_askCount) sz) r0) 0 0 (va_A (wX cB cI cJ cZ a (a 35) (a 4) ww_latestFault tp_bytes tp_size rd_fault rd_faultPlace rd_kind rd_start rd_at rd_number dr_letterMarks dr_names dr_spelled dr_rows dr_alike dr_near dr_asks dr_letters dr_words dr_askCount sh_lanes sh_sizes sh_cells la_xs la_ys la_heights la_ridgeXs la_ridgeHeights la_way la_blurs la_steps la_places la_ridges la_wayBlur la_wayLength bk_times bk_froms bk_asks bk_words bk_firsts bk_lies bk_held bk_size nu_learned nu_size to_letterMarks to_names to_spelled to_rows to_alike to_near to_asks to_letters to_words to_askCount) sz) := by
  refine Met.ofW (cc := cX7_differingInOneFrom) (maxL := 4) (ret := (some .int)) (by decide) rfl ?_
  intro p e s m args below meth c s₁ B hml hv
  obtain ⟨rfl, hsz, hP, hK, hD0, hE⟩ := hv
  have hx := B.exec
  have hb := B.bytes
  have hr := B.returns
  have hts := atoms_spec (ws := wsX7_differingInOneFrom) B.pre
  have hown : s.vm.findClass RX7 = some m.cls := findClass_of_methodNamed B.named
  have hlocks := B.notSynchronized
  subst hsz
  have hD := hD0.self (sz := s.heap.size)
  have hA : ∀ q : Nat, s.heap.size ≤ q → va_A (wX cB cI cJ cZ a (a 35) (a 4) ww_latestFault tp_bytes tp_size rd_fault rd_faultPlace rd_kind rd_start rd_at rd_number dr_letterMarks dr_names dr_spelled dr_rows dr_alike dr_near dr_asks dr_letters dr_words dr_askCount sh_lanes sh_sizes sh_cells la_xs la_ys la_heights la_ridgeXs la_ridgeHeights la_way la_blurs la_steps la_places la_ridges la_wayBlur la_wayLength bk_times bk_froms bk_asks bk_words bk_firsts bk_lies bk_held bk_size nu_learned nu_size to_letterMarks to_names to_spelled to_rows to_alike to_near to_asks to_letters to_words to_askCount) s.heap.size q := fun q h => Or.inr h
  generalize va_A (wX cB cI cJ cZ a (a 35) (a 4) ww_latestFault tp_bytes tp_size rd_fault rd_faultPlace rd_kind rd_start rd_at rd_number dr_letterMarks dr_names dr_spelled dr_rows dr_alike dr_near dr_asks dr_letters dr_words dr_askCount sh_lanes sh_sizes sh_cells la_xs la_ys la_heights la_ridgeXs la_ridgeHeights la_way la_blurs la_steps la_places la_ridges la_wayBlur la_wayLength bk_times bk_froms bk_asks bk_words bk_firsts bk_lies bk_held bk_size nu_learned nu_size to_letterMarks to_names to_spelled to_rows to_alike to_near to_asks to_letters to_words to_askCount) s.heap.size = A at hD hA hE ⊢
  have hS : va_S A s.heap s.heap [] := va_S.rf
  have C0 : cxt cX7_differingInOneFrom (some .int) 4 RX7 wsX7_differingInOneFrom (dC, dI) (tyz cB cI cJ cZ) (E_X adK adV) A p s m ([.ref (a 35), .int x1] : List Value).toArray meth c := ⟨hx, hb, hr, hml, hown, hts, hlocks, hK, hA, hE⟩
  have hl := lv_entry ([.ref (a 35), .int x1]) (n := 4) (Nat.le_of_ble_eq_true rfl)
  rw [lg_entry_eq]
  generalize (lg_sl ([.ref (a 35), .int x1]) ++ List.replicate (4 - (lg_sl ([.ref (a 35), .int x1])).length) Slot.unset).toArray = ls at hl ⊢
  have hl : lv_has ls 4 [(0, .ref (a 35)), (1, .int x1)] := hl
  unfold fX7_differingInOneFrom at h
  refine lv_iconst (v := 0) hx hb dX7_differingInOneFrom_0 (by decide) ?_
  refine lv_istore_n (lv' := [(2, .int (0 : Int32)), (0, .ref (a 35)), (1, .int x1)]) hx hb dX7_differingInOneFrom_1 rfl hl (by decide) rfl (fun ls hl => ?_)
  refine lv_iconst (v := 0) hx hb dX7_differingInOneFrom_2 (by decide) ?_
  refine lv_istore_n (lv' := [(3, .int (0 : Int32)), (2, .int (0 : Int32)), (0, .ref (a 35)), (1, .int x1)]) hx hb dX7_differingInOneFrom_3 rfl hl (by decide) rfl (fun ls hl => ?_)
  exact kX7_differingInOneFrom_p4 dC dI cB cI cJ cZ a adK adV C0 n ww_latestFault tp_bytes tp_size rd_fault rd_faultPlace rd_kind rd_start rd_at rd_number dr_letterMarks dr_names dr_spelled dr_rows dr_alike dr_near dr_asks dr_letters dr_words dr_askCount sh_lanes sh_sizes sh_cells la_xs la_ys la_heights la_ridgeXs la_ridgeHeights la_way la_blurs la_steps la_places la_ridges la_wayBlur la_wayLength bk_times bk_froms bk_asks bk_words bk_firsts bk_lies bk_held bk_size nu_learned nu_size to_letterMarks to_names to_spelled to_rows to_alike to_near to_asks to_letters to_words to_askCount x1 (0 : Int32) (0 : Int32) r0  n _ _ ls h hP hD hS (lv_sub hl [2, 3, 1, 0] rfl)
set_option maxHeartbeats 4000000 in
set_option maxRecDepth 100000 in
theorem kX7_settle_p10_r {p : Program} {l : Launch} {e : Env} {s : State} {m : MethodId} {args : Array Value} {below : List Frame} {meth : Method} {c : Code} {A : Nat → Prop} (dC : Nat → ClassId) (dI : Nat → Nat → Nat) (cB cI cJ cZ : ClassId) (a : Nat → Nat) (adK adV : Nat → Nat) (C0 : cxt cX7_settle none 3 RX7 wsX7_settle (dC, dI) (tyz cB cI cJ cZ) (E_X adK adV) A p s m args meth c) (n : Nat) (ww_latestFault : Int32) (tp_bytes : Nat → Int32) (tp_size : Int32) (rd_fault : Int32) (rd_faultPlace : Int32) (rd_kind : Int32) (rd_start : Int32) (rd_at : Int32) (rd_number : Int32) (dr_letterMarks : Nat → Int32) (dr_names : Nat → Int64) (dr_spelled : Nat → Int32) (dr_rows : Nat → Int64) (dr_alike : Nat → Int32) (dr_near : Nat → Int32) (dr_asks : Nat → Int32) (dr_letters : Int32) (dr_words : Int32) (dr_askCount : Int32) (sh_lanes : Nat → Int32) (sh_sizes : Nat → Int32) (sh_cells : Nat → Int32) (la_xs : Nat → Int32) (la_ys : Nat → Int32) (la_heights : Nat → Int32) (la_ridgeXs : Nat → Int32) (la_ridgeHeights : Nat → Int32) (la_way : Nat → Int32) (la_blurs : Nat → Int32) (la_steps : Nat → Int32) (la_places : Int32) (la_ridges : Int32) (la_wayBlur : Int32) (la_wayLength : Int32) (bk_times : Nat → Int32) (bk_froms : Nat → Int32) (bk_asks : Nat → Int32) (bk_words : Nat → Int32) (bk_firsts : Nat → Int32) (bk_lies : Nat → Int32) (bk_held : Nat → Int32) (bk_size : Int32) (nu_learned : Nat → Int32) (nu_size : Int32) (to_letterMarks : Nat → Int32) (to_names : Nat → Int64) (to_spelled : Nat → Int32) (to_alike : Nat → Int32) (to_near : Nat → Int32) (to_asks : Nat → Int32) (to_letters : Int32) (to_words : Int32) (to_askCount : Int32) (x1 : Int32) (z_to_rows : Nat → Int64) (z_to_alike : Nat → Int32) (z_to_near : Nat → Int32) (rec2 : (Nat → Int64) → Int32 → Option ((Nat → Int64) × (Nat → Int32) × (Nat → Int32))) (hrec2 : ∀ (y_to_rows : Nat → Int64) (y_x1 : Int32) (H : Heap) (locs : List Loc) (ls : Array Slot), rec2 y_to_rows y_x1 = some (z_to_rows, z_to_alike, z_to_near) → va_P (dC, dI) vwCl (wX cB cI cJ cZ a (a 35) (a 4) ww_latestFault tp_bytes tp_size rd_fault rd_faultPlace rd_kind rd_start rd_at rd_number dr_letterMarks dr_names dr_spelled dr_rows dr_alike dr_near dr_asks dr_letters dr_words dr_askCount sh_lanes sh_sizes sh_cells la_xs la_ys la_heights la_ridgeXs la_ridgeHeights la_way la_blurs la_steps la_places la_ridges la_wayBlur la_wayLength bk_times bk_froms bk_asks bk_words bk_firsts bk_lies bk_held bk_size nu_learned nu_size to_letterMarks to_names to_spelled y_to_rows to_alike to_near to_asks to_letters to_words to_askCount) H → va_D A (wX cB cI cJ cZ a (a 35) (a 4) ww_latestFault tp_bytes tp_size rd_fault rd_faultPlace rd_kind rd_start rd_at rd_number dr_letterMarks dr_names dr_spelled dr_rows dr_alike dr_near dr_asks dr_letters dr_words dr_askCount sh_lanes sh_sizes sh_cells la_xs la_ys la_heights la_ridgeXs la_ridgeHeights la_way la_blurs la_steps la_places la_ridges la_wayBlur la_wayLength bk_times bk_froms bk_asks bk_words bk_firsts bk_lies bk_held bk_size nu_learned nu_size to_letterMarks to_names to_spelled y_to_rows to_alike to_near to_asks to_letters to_words to_askCount) → va_S A s.heap H locs → lv_has ls 3 [(0, .ref (a 35)), (1, .int y_x1)] → W p l e { frames := 4, cells := 0, slots := 0, locals := 93 } s m args below meth c H locs 0 0 (MQ below (gV (dC, dI) (tyz cB cI cJ cZ) (wX cB cI cJ cZ a (a 35) (a 4) ww_latestFault tp_bytes tp_size rd_fault rd_faultPlace rd_kind rd_start rd_at rd_number dr_letterMarks dr_names dr_spelled dr_rows dr_alike dr_near dr_asks dr_letters dr_words dr_askCount sh_lanes sh_sizes sh_cells la_xs la_ys la_heights la_ridgeXs la_ridgeHeights la_way la_blurs la_steps la_places la_ridges la_wayBlur la_wayLength bk_times bk_froms bk_asks bk_words bk_firsts bk_lies bk_held bk_size nu_learned nu_size to_letterMarks to_names to_spelled z_to_rows z_to_alike z_to_near to_asks to_letters to_words to_askCount) A) args s 0 0 A) (F0 m 2 ls [])) : ∀ (k : Nat) (to_rows : Nat → Int64) (x2 : Int32) (H : Heap) (locs : List Loc) (ls : Array Slot), fX7_settle_p10 n to_alike to_near to_words x1 rec2 k to_rows x2 = some (z_to_rows, z_to_alike, z_to_near) → va_P (dC, dI) vwCl (wX cB cI cJ cZ a (a 35) (a 4) ww_latestFault tp_bytes tp_size rd_fault rd_faultPlace rd_kind rd_start rd_at rd_number dr_letterMarks dr_names dr_spelled dr_rows dr_alike dr_near dr_asks dr_letters dr_words dr_askCount sh_lanes sh_sizes sh_cells la_xs la_ys la_heights la_ridgeXs la_ridgeHeights la_way la_blurs la_steps la_places la_ridges la_wayBlur la_wayLength bk_times bk_froms bk_asks bk_words bk_firsts bk_lies bk_held bk_size nu_learned nu_size to_letterMarks to_names to_spelled to_rows to_alike to_near to_asks to_letters to_words to_askCount) H → va_D A (wX cB cI cJ cZ a (a 35) (a 4) ww_latestFault tp_bytes tp_size rd_fault rd_faultPlace rd_kind rd_start rd_at rd_number dr_letterMarks dr_names dr_spelled dr_rows dr_alike dr_near dr_asks dr_letters dr_words dr_askCount sh_lanes sh_sizes sh_cells la_xs la_ys la_heights la_ridgeXs la_ridgeHeights la_way la_blurs la_steps la_places la_ridges la_wayBlur la_wayLength bk_times bk_froms bk_asks bk_words bk_firsts bk_lies bk_held bk_size nu_learned nu_size to_letterMarks to_names to_spelled to_rows to_alike to_near to_asks to_letters to_words to_askCount) → va_S A s.heap H locs → lv_has ls 3 [(0, .ref (a 35)), (1, .int x1), (2, .int x2)] → W p l e { frames := 4, cells := 0, slots := 0, locals := 93 } s m args below meth c H locs 0 0 (MQ below (gV (dC, dI) (tyz cB cI cJ cZ) (wX cB cI cJ cZ a (a 35) (a 4) ww_latestFault tp_bytes tp_size rd_fault rd_faultPlace rd_kind rd_start rd_at rd_number dr_letterMarks dr_names dr_spelled dr_rows dr_alike dr_near dr_asks dr_letters dr_words dr_askCount sh_lanes sh_sizes sh_cells la_xs la_ys la_heights la_ridgeXs la_ridgeHeights la_way la_blurs la_steps la_places la_ridges la_wayBlur la_wayLength bk_times bk_froms bk_asks bk_words bk_firsts bk_lies bk_held bk_size nu_learned nu_size to_letterMarks to_names to_spelled z_to_rows z_to_alike z_to_near to_asks to_letters to_words to_askCount) A) args s 0 0 A) (F0 m 10 ls []) := by
  obtain ⟨hx, hb, hr, hml, hown, hts, hlocks, hK, hA, hE⟩ := id C0
  have hw0 := hts (.fieldLink RX7 44 "WhistledWords$Tongue" "words" "I") (by decide +kernel)
  have hw1 := hts (.fieldLink RX7 28 "WhistledWords$Tongue" "rows" "[J") (by decide +kernel)
  have hnX7 : ∀ w ∈ u_ws RX7 TX7 10, w ∈ wsX7_settle := fun _ h => List.mem_cons_of_mem _ (List.mem_append_right _ h)
  intro k
  induction k with
  | zero =>
    intro to_rows x2 H locs ls h
    cases h
  | succ k ih =>
    intro to_rows x2 H locs ls h hP hD hS hl
    rw [fX7_settle_p10] at h
    refine lv_iload_n hx hb dX7_settle_10 rfl (lv_at hl 2 rfl) ?_
    refine lv_aload_n hx hb dX7_settle_11 rfl (lv_at hl 0 rfl) ?_
    refine gX_told_words hx hb hts hnX7 hown hK hP hw0 dX7_settle_12 ?_
    refine lv_icmp_ge (tgt := 45) hx hb dX7_settle_15 (by decide) (fun c1 => ?_) (fun c1 => ?_)
    · have h := it_use c1 h
      refine lv_iinc (v := x1 + 1) (lv' := [(1, .int (x1 + 1)), (0, .ref (a 35)), (2, .int x2)]) hx hb dX7_settle_45 hl (k := 1) rfl rfl (by decide) rfl (fun ls hl => ?_)
      refine lv_goto (tgt := 2) hx hb dX7_settle_48 (by decide) ?_
      exact hrec2 to_rows (x1 + 1) _ _ ls h hP hD hS (lv_sub hl [1, 0] rfl)
    · have h := ie_use c1 h
      refine lv_aload_n hx hb dX7_settle_18 rfl (lv_at hl 0 rfl) ?_
      refine gX_told_rows hx hb hts hnX7 hown hK hP hw1 dX7_settle_19 ?_
      refine lv_iload_n hx hb dX7_settle_22 rfl (lv_at hl 1 rfl) ?_
      refine lv_bipush (v := 16) hx hb dX7_settle_23 (by decide) ?_
      refine lv_imul hx hb dX7_settle_25 ?_
      refine lv_iload_n hx hb dX7_settle_26 rfl (lv_at hl 2 rfl) ?_
      refine lv_iadd hx hb dX7_settle_27 ?_
      refine lv_aload_n hx hb dX7_settle_28 rfl (lv_at hl 0 rfl) ?_
      refine gX_told_rows hx hb hts hnX7 hown hK hP hw1 dX7_settle_29 ?_
      refine lv_iload_n hx hb dX7_settle_32 rfl (lv_at hl 2 rfl) ?_
      obtain ⟨hiv2, h⟩ := ar_use h
      refine lX_told_rows hx hb hK hP hiv2 dX7_settle_33 ?_
      refine lv_topl (fun v2 ev2 => ?_)
      have h := h v2 ev2
      refine lv_iload_n hx hb dX7_settle_34 rfl (lv_at hl 1 rfl) ?_
      obtain ⟨v3, hc, h⟩ := bd1_use h
      refine cs_l (As := [.long v2, .int x1]) (rest := [.int ((x1 * (16 : Int32)) + x2), .ref (a 39)]) ⟨hx, hb, hml, hown, hts⟩ (kX3_blurRow l n v2 x1 v3 hc) (va_cwS 2 hts gX7_settle_X3_blurRow rfl rfl rfl (by decide +kernel) ⟨Nat.le_of_ble_eq_true rfl, Nat.le_of_ble_eq_true rfl⟩) hP hS rfl hl.1 rfl (Nat.le_of_ble_eq_true rfl) dX7_settle_35 ⟨Nat.zero_le _, Nat.zero_le _⟩ (fun H locs hP hS => ?_)
      obtain ⟨hif4, f4, ef4, h⟩ := awL_use h
      refine sX_told_rows hx hb hK hP hD hS hif4 ef4 dX7_settle_38 (fun H locs hP hD hS => ?_)
      refine lv_iinc (v := x2 + 1) (lv' := [(2, .int (x2 + 1)), (0, .ref (a 35)), (1, .int x1)]) hx hb dX7_settle_39 hl (k := 2) rfl rfl (by decide) rfl (fun ls hl => ?_)
      refine lv_goto (tgt := 10) hx hb dX7_settle_42 (by decide) ?_
      exact ih f4 (x2 + 1) _ _ ls h hP hD hS (lv_sub hl [1, 2, 0] rfl)
theorem kX7_settle_p10 {p : Program} {l : Launch} {e : Env} {s : State} {m : MethodId} {args : Array Value} {below : List Frame} {meth : Method} {c : Code} {A : Nat → Prop} (dC : Nat → ClassId) (dI : Nat → Nat → Nat) (cB cI cJ cZ : ClassId) (a : Nat → Nat) (adK adV : Nat → Nat) (C0 : cxt cX7_settle none 3 RX7 wsX7_settle (dC, dI) (tyz cB cI cJ cZ) (E_X adK adV) A p s m args meth c) (n : Nat) (ww_latestFault : Int32) (tp_bytes : Nat → Int32) (tp_size : Int32) (rd_fault : Int32) (rd_faultPlace : Int32) (rd_kind : Int32) (rd_start : Int32) (rd_at : Int32) (rd_number : Int32) (dr_letterMarks : Nat → Int32) (dr_names : Nat → Int64) (dr_spelled : Nat → Int32) (dr_rows : Nat → Int64) (dr_alike : Nat → Int32) (dr_near : Nat → Int32) (dr_asks : Nat → Int32) (dr_letters : Int32) (dr_words : Int32) (dr_askCount : Int32) (sh_lanes : Nat → Int32) (sh_sizes : Nat → Int32) (sh_cells : Nat → Int32) (la_xs : Nat → Int32) (la_ys : Nat → Int32) (la_heights : Nat → Int32) (la_ridgeXs : Nat → Int32) (la_ridgeHeights : Nat → Int32) (la_way : Nat → Int32) (la_blurs : Nat → Int32) (la_steps : Nat → Int32) (la_places : Int32) (la_ridges : Int32) (la_wayBlur : Int32) (la_wayLength : Int32) (bk_times : Nat → Int32) (bk_froms : Nat → Int32) (bk_asks : Nat → Int32) (bk_words : Nat → Int32) (bk_firsts : Nat → Int32) (bk_lies : Nat → Int32) (bk_held : Nat → Int32) (bk_size : Int32) (nu_learned : Nat → Int32) (nu_size : Int32) (to_letterMarks : Nat → Int32) (to_names : Nat → Int64) (to_spelled : Nat → Int32) (to_rows : Nat → Int64) (to_alike : Nat → Int32) (to_near : Nat → Int32) (to_asks : Nat → Int32) (to_letters : Int32) (to_words : Int32) (to_askCount : Int32)  (x1 : Int32) (x2 : Int32) (z_to_rows : Nat → Int64) (z_to_alike : Nat → Int32) (z_to_near : Nat → Int32) (rec2 : (Nat → Int64) → Int32 → Option ((Nat → Int64) × (Nat → Int32) × (Nat → Int32))) (hrec2 : ∀ (y_to_rows : Nat → Int64) (y_x1 : Int32) (H : Heap) (locs : List Loc) (ls : Array Slot), rec2 y_to_rows y_x1 = some (z_to_rows, z_to_alike, z_to_near) → va_P (dC, dI) vwCl (wX cB cI cJ cZ a (a 35) (a 4) ww_latestFault tp_bytes tp_size rd_fault rd_faultPlace rd_kind rd_start rd_at rd_number dr_letterMarks dr_names dr_spelled dr_rows dr_alike dr_near dr_asks dr_letters dr_words dr_askCount sh_lanes sh_sizes sh_cells la_xs la_ys la_heights la_ridgeXs la_ridgeHeights la_way la_blurs la_steps la_places la_ridges la_wayBlur la_wayLength bk_times bk_froms bk_asks bk_words bk_firsts bk_lies bk_held bk_size nu_learned nu_size to_letterMarks to_names to_spelled y_to_rows to_alike to_near to_asks to_letters to_words to_askCount) H → va_D A (wX cB cI cJ cZ a (a 35) (a 4) ww_latestFault tp_bytes tp_size rd_fault rd_faultPlace rd_kind rd_start rd_at rd_number dr_letterMarks dr_names dr_spelled dr_rows dr_alike dr_near dr_asks dr_letters dr_words dr_askCount sh_lanes sh_sizes sh_cells la_xs la_ys la_heights la_ridgeXs la_ridgeHeights la_way la_blurs la_steps la_places la_ridges la_wayBlur la_wayLength bk_times bk_froms bk_asks bk_words bk_firsts bk_lies bk_held bk_size nu_learned nu_size to_letterMarks to_names to_spelled y_to_rows to_alike to_near to_asks to_letters to_words to_askCount) → va_S A s.heap H locs → lv_has ls 3 [(0, .ref (a 35)), (1, .int y_x1)] → W p l e { frames := 4, cells := 0, slots := 0, locals := 93 } s m args below meth c H locs 0 0 (MQ below (gV (dC, dI) (tyz cB cI cJ cZ) (wX cB cI cJ cZ a (a 35) (a 4) ww_latestFault tp_bytes tp_size rd_fault rd_faultPlace rd_kind rd_start rd_at rd_number dr_letterMarks dr_names dr_spelled dr_rows dr_alike dr_near dr_asks dr_letters dr_words dr_askCount sh_lanes sh_sizes sh_cells la_xs la_ys la_heights la_ridgeXs la_ridgeHeights la_way la_blurs la_steps la_places la_ridges la_wayBlur la_wayLength bk_times bk_froms bk_asks bk_words bk_firsts bk_lies bk_held bk_size nu_learned nu_size to_letterMarks to_names to_spelled z_to_rows z_to_alike z_to_near to_asks to_letters to_words to_askCount) A) args s 0 0 A) (F0 m 2 ls [])) (k : Nat) (H : Heap) (locs : List Loc) (ls : Array Slot) : fX7_settle_p10 n to_alike to_near to_words x1 rec2 k to_rows x2 = some (z_to_rows, z_to_alike, z_to_near) → va_P (dC, dI) vwCl (wX cB cI cJ cZ a (a 35) (a 4) ww_latestFault tp_bytes tp_size rd_fault rd_faultPlace rd_kind rd_start rd_at rd_number dr_letterMarks dr_names dr_spelled dr_rows dr_alike dr_near dr_asks dr_letters dr_words dr_askCount sh_lanes sh_sizes sh_cells la_xs la_ys la_heights la_ridgeXs la_ridgeHeights la_way la_blurs la_steps la_places la_ridges la_wayBlur la_wayLength bk_times bk_froms bk_asks bk_words bk_firsts bk_lies bk_held bk_size nu_learned nu_size to_letterMarks to_names to_spelled to_rows to_alike to_near to_asks to_letters to_words to_askCount) H → va_D A (wX cB cI cJ cZ a (a 35) (a 4) ww_latestFault tp_bytes tp_size rd_fault rd_faultPlace rd_kind rd_start rd_at rd_number dr_letterMarks dr_names dr_spelled dr_rows dr_alike dr_near dr_asks dr_letters dr_words dr_askCount sh_lanes sh_sizes sh_cells la_xs la_ys la_heights la_ridgeXs la_ridgeHeights la_way la_blurs la_steps la_places la_ridges la_wayBlur la_wayLength bk_times bk_froms bk_asks bk_words bk_firsts bk_lies bk_held bk_size nu_learned nu_size to_letterMarks to_names to_spelled to_rows to_alike to_near to_asks to_letters to_words to_askCount) → va_S A s.heap H locs → lv_has ls 3 [(0, .ref (a 35)), (1, .int x1), (2, .int x2)] → W p l e { frames := 4, cells := 0, slots := 0, locals := 93 } s m args below meth c H locs 0 0 (MQ below (gV (dC, dI) (tyz cB cI cJ cZ) (wX cB cI cJ cZ a (a 35) (a 4) ww_latestFault tp_bytes tp_size rd_fault rd_faultPlace rd_kind rd_start rd_at rd_number dr_letterMarks dr_names dr_spelled dr_rows dr_alike dr_near dr_asks dr_letters dr_words dr_askCount sh_lanes sh_sizes sh_cells la_xs la_ys la_heights la_ridgeXs la_ridgeHeights la_way la_blurs la_steps la_places la_ridges la_wayBlur la_wayLength bk_times bk_froms bk_asks bk_words bk_firsts bk_lies bk_held bk_size nu_learned nu_size to_letterMarks to_names to_spelled z_to_rows z_to_alike z_to_near to_asks to_letters to_words to_askCount) A) args s 0 0 A) (F0 m 10 ls []) :=
  kX7_settle_p10_r dC dI cB cI cJ cZ a adK adV C0 n ww_latestFault tp_bytes tp_size rd_fault rd_faultPlace rd_kind rd_start rd_at rd_number dr_letterMarks dr_names dr_spelled dr_rows dr_alike dr_near dr_asks dr_letters dr_words dr_askCount sh_lanes sh_sizes sh_cells la_xs la_ys la_heights la_ridgeXs la_ridgeHeights la_way la_blurs la_steps la_places la_ridges la_wayBlur la_wayLength bk_times bk_froms bk_asks bk_words bk_firsts bk_lies bk_held bk_size nu_learned nu_size to_letterMarks to_names to_spelled to_alike to_near to_asks to_letters to_words to_askCount x1 z_to_rows z_to_alike z_to_near rec2 hrec2 k to_rows x2 H locs ls
set_option maxHeartbeats 4000000 in
set_option maxRecDepth 100000 in
theorem kX7_settle_p61_r {p : Program} {l : Launch} {e : Env} {s : State} {m : MethodId} {args : Array Value} {below : List Frame} {meth : Method} {c : Code} {A : Nat → Prop} (dC : Nat → ClassId) (dI : Nat → Nat → Nat) (cB cI cJ cZ : ClassId) (a : Nat → Nat) (adK adV : Nat → Nat) (C0 : cxt cX7_settle none 3 RX7 wsX7_settle (dC, dI) (tyz cB cI cJ cZ) (E_X adK adV) A p s m args meth c) (n : Nat) (ww_latestFault : Int32) (tp_bytes : Nat → Int32) (tp_size : Int32) (rd_fault : Int32) (rd_faultPlace : Int32) (rd_kind : Int32) (rd_start : Int32) (rd_at : Int32) (rd_number : Int32) (dr_letterMarks : Nat → Int32) (dr_names : Nat → Int64) (dr_spelled : Nat → Int32) (dr_rows : Nat → Int64) (dr_alike : Nat → Int32) (dr_near : Nat → Int32) (dr_asks : Nat → Int32) (dr_letters : Int32) (dr_words : Int32) (dr_askCount : Int32) (sh_lanes : Nat → Int32) (sh_sizes : Nat → Int32) (sh_cells : Nat → Int32) (la_xs : Nat → Int32) (la_ys : Nat → Int32) (la_heights : Nat → Int32) (la_ridgeXs : Nat → Int32) (la_ridgeHeights : Nat → Int32) (la_way : Nat → Int32) (la_blurs : Nat → Int32) (la_steps : Nat → Int32) (la_places : Int32) (la_ridges : Int32) (la_wayBlur : Int32) (la_wayLength : Int32) (bk_times : Nat → Int32) (bk_froms : Nat → Int32) (bk_asks : Nat → Int32) (bk_words : Nat → Int32) (bk_firsts : Nat → Int32) (bk_lies : Nat → Int32) (bk_held : Nat → Int32) (bk_size : Int32) (nu_learned : Nat → Int32) (nu_size : Int32) (to_letterMarks : Nat → Int32) (to_names : Nat → Int64) (to_spelled : Nat → Int32) (to_rows : Nat → Int64) (to_near : Nat → Int32) (to_asks : Nat → Int32) (to_letters : Int32) (to_words : Int32) (to_askCount : Int32) (x1 : Int32) (z_to_rows : Nat → Int64) (z_to_alike : Nat → Int32) (z_to_near : Nat → Int32) (rec53 : (Nat → Int32) → Int32 → Option ((Nat → Int64) × (Nat → Int32) × (Nat → Int32))) (hrec53 : ∀ (y_to_alike : Nat → Int32) (y_x1 : Int32) (H : Heap) (locs : List Loc) (ls : Array Slot), rec53 y_to_alike y_x1 = some (z_to_rows, z_to_alike, z_to_near) → va_P (dC, dI) vwCl (wX cB cI cJ cZ a (a 35) (a 4) ww_latestFault tp_bytes tp_size rd_fault rd_faultPlace rd_kind rd_start rd_at rd_number dr_letterMarks dr_names dr_spelled dr_rows dr_alike dr_near dr_asks dr_letters dr_words dr_askCount sh_lanes sh_sizes sh_cells la_xs la_ys la_heights la_ridgeXs la_ridgeHeights la_way la_blurs la_steps la_places la_ridges la_wayBlur la_wayLength bk_times bk_froms bk_asks bk_words bk_firsts bk_lies bk_held bk_size nu_learned nu_size to_letterMarks to_names to_spelled to_rows y_to_alike to_near to_asks to_letters to_words to_askCount) H → va_D A (wX cB cI cJ cZ a (a 35) (a 4) ww_latestFault tp_bytes tp_size rd_fault rd_faultPlace rd_kind rd_start rd_at rd_number dr_letterMarks dr_names dr_spelled dr_rows dr_alike dr_near dr_asks dr_letters dr_words dr_askCount sh_lanes sh_sizes sh_cells la_xs la_ys la_heights la_ridgeXs la_ridgeHeights la_way la_blurs la_steps la_places la_ridges la_wayBlur la_wayLength bk_times bk_froms bk_asks bk_words bk_firsts bk_lies bk_held bk_size nu_learned nu_size to_letterMarks to_names to_spelled to_rows y_to_alike to_near to_asks to_letters to_words to_askCount) → va_S A s.heap H locs → lv_has ls 3 [(0, .ref (a 35)), (1, .int y_x1)] → W p l e { frames := 4, cells := 0, slots := 0, locals := 93 } s m args below meth c H locs 0 0 (MQ below (gV (dC, dI) (tyz cB cI cJ cZ) (wX cB cI cJ cZ a (a 35) (a 4) ww_latestFault tp_bytes tp_size rd_fault rd_faultPlace rd_kind rd_start rd_at rd_number dr_letterMarks dr_names dr_spelled dr_rows dr_alike dr_near dr_asks dr_letters dr_words dr_askCount sh_lanes sh_sizes sh_cells la_xs la_ys la_heights la_ridgeXs la_ridgeHeights la_way la_blurs la_steps la_places la_ridges la_wayBlur la_wayLength bk_times bk_froms bk_asks bk_words bk_firsts bk_lies bk_held bk_size nu_learned nu_size to_letterMarks to_names to_spelled z_to_rows z_to_alike z_to_near to_asks to_letters to_words to_askCount) A) args s 0 0 A) (F0 m 53 ls [])) : ∀ (k : Nat) (to_alike : Nat → Int32) (x2 : Int32) (H : Heap) (locs : List Loc) (ls : Array Slot), fX7_settle_p61 n to_rows to_near to_words x1 rec53 k to_alike x2 = some (z_to_rows, z_to_alike, z_to_near) → va_P (dC, dI) vwCl (wX cB cI cJ cZ a (a 35) (a 4) ww_latestFault tp_bytes tp_size rd_fault rd_faultPlace rd_kind rd_start rd_at rd_number dr_letterMarks dr_names dr_spelled dr_rows dr_alike dr_near dr_asks dr_letters dr_words dr_askCount sh_lanes sh_sizes sh_cells la_xs la_ys la_heights la_ridgeXs la_ridgeHeights la_way la_blurs la_steps la_places la_ridges la_wayBlur la_wayLength bk_times bk_froms bk_asks bk_words bk_firsts bk_lies bk_held bk_size nu_learned nu_size to_letterMarks to_names to_spelled to_rows to_alike to_near to_asks to_letters to_words to_askCount) H → va_D A (wX cB cI cJ cZ a (a 35) (a 4) ww_latestFault tp_bytes tp_size rd_fault rd_faultPlace rd_kind rd_start rd_at rd_number dr_letterMarks dr_names dr_spelled dr_rows dr_alike dr_near dr_asks dr_letters dr_words dr_askCount sh_lanes sh_sizes sh_cells la_xs la_ys la_heights la_ridgeXs la_ridgeHeights la_way la_blurs la_steps la_places la_ridges la_wayBlur la_wayLength bk_times bk_froms bk_asks bk_words bk_firsts bk_lies bk_held bk_size nu_learned nu_size to_letterMarks to_names to_spelled to_rows to_alike to_near to_asks to_letters to_words to_askCount) → va_S A s.heap H locs → lv_has ls 3 [(0, .ref (a 35)), (1, .int x1), (2, .int x2)] → W p l e { frames := 4, cells := 0, slots := 0, locals := 93 } s m args below meth c H locs 0 0 (MQ below (gV (dC, dI) (tyz cB cI cJ cZ) (wX cB cI cJ cZ a (a 35) (a 4) ww_latestFault tp_bytes tp_size rd_fault rd_faultPlace rd_kind rd_start rd_at rd_number dr_letterMarks dr_names dr_spelled dr_rows dr_alike dr_near dr_asks dr_letters dr_words dr_askCount sh_lanes sh_sizes sh_cells la_xs la_ys la_heights la_ridgeXs la_ridgeHeights la_way la_blurs la_steps la_places la_ridges la_wayBlur la_wayLength bk_times bk_froms bk_asks bk_words bk_firsts bk_lies bk_held bk_size nu_learned nu_size to_letterMarks to_names to_spelled z_to_rows z_to_alike z_to_near to_asks to_letters to_words to_askCount) A) args s 0 0 A) (F0 m 61 ls []) := by
  obtain ⟨hx, hb, hr, hml, hown, hts, hlocks, hK, hA, hE⟩ := id C0
  have hw0 := hts (.fieldLink RX7 44 "WhistledWords$Tongue" "words" "I") (by decide +kernel)
  have hw1 := hts (.fieldLink RX7 31 "WhistledWords$Tongue" "alike" "[I") (by decide +kernel)
  have hnX7 : ∀ w ∈ u_ws RX7 TX7 10, w ∈ wsX7_settle := fun _ h => List.mem_cons_of_mem _ (List.mem_append_right _ h)
  intro k
  induction k with
  | zero =>
    intro to_alike x2 H locs ls h
    cases h
  | succ k ih =>
    intro to_alike x2 H locs ls h hP hD hS hl
    rw [fX7_settle_p61] at h
    refine lv_iload_n hx hb dX7_settle_61 rfl (lv_at hl 2 rfl) ?_
    refine lv_aload_n hx hb dX7_settle_62 rfl (lv_at hl 0 rfl) ?_
    refine gX_told_words hx hb hts hnX7 hown hK hP hw0 dX7_settle_63 ?_
    refine lv_icmp_ge (tgt := 97) hx hb dX7_settle_66 (by decide) (fun c1 => ?_) (fun c1 => ?_)
    · have h := it_use c1 h
      refine lv_iinc (v := x1 + 1) (lv' := [(1, .int (x1 + 1)), (0, .ref (a 35)), (2, .int x2)]) hx hb dX7_settle_97 hl (k := 1) rfl rfl (by decide) rfl (fun ls hl => ?_)
      refine lv_goto (tgt := 53) hx hb dX7_settle_100 (by decide) ?_
      exact hrec53 to_alike (x1 + 1) _ _ ls h hP hD hS (lv_sub hl [1, 0] rfl)
    · have h := ie_use c1 h
      refine lv_aload_n hx hb dX7_settle_69 rfl (lv_at hl 0 rfl) ?_
      refine gX_told_alike hx hb hts hnX7 hown hK hP hw1 dX7_settle_70 ?_
      refine lv_iload_n hx hb dX7_settle_73 rfl (lv_at hl 1 rfl) ?_
      refine lv_bipush (v := 16) hx hb dX7_settle_74 (by decide) ?_
      refine lv_imul hx hb dX7_settle_76 ?_
      refine lv_iload_n hx hb dX7_settle_77 rfl (lv_at hl 2 rfl) ?_
      refine lv_iadd hx hb dX7_settle_78 ?_
      refine lv_aload_n hx hb dX7_settle_79 rfl (lv_at hl 0 rfl) ?_
      refine lv_iload_n hx hb dX7_settle_80 rfl (lv_at hl 1 rfl) ?_
      refine lv_aload_n hx hb dX7_settle_81 rfl (lv_at hl 0 rfl) ?_
      refine lv_iload_n hx hb dX7_settle_82 rfl (lv_at hl 1 rfl) ?_
      refine lv_iload_n hx hb dX7_settle_83 rfl (lv_at hl 2 rfl) ?_
      obtain ⟨v2, hc, h⟩ := bd1_use h
      refine cv_l (As := [.int x1, .int x2]) (rest := [.int x1, .ref (a 35), .int ((x1 * (16 : Int32)) + x2), .ref (a 40)]) ⟨hx, hb, hml, hown, hts⟩ (kX7_rowAt l n dC dI cB cI cJ cZ a adK adV _ ww_latestFault tp_bytes tp_size rd_fault rd_faultPlace rd_kind rd_start rd_at rd_number dr_letterMarks dr_names dr_spelled dr_rows dr_alike dr_near dr_asks dr_letters dr_words dr_askCount sh_lanes sh_sizes sh_cells la_xs la_ys la_heights la_ridgeXs la_ridgeHeights la_way la_blurs la_steps la_places la_ridges la_wayBlur la_wayLength bk_times bk_froms bk_asks bk_words bk_firsts bk_lies bk_held bk_size nu_learned nu_size to_letterMarks to_names to_spelled to_rows to_alike to_near to_asks to_letters to_words to_askCount x1 x2 v2 hc) (cwV 2 hts gX7_settle_X7_rowAt rfl rfl rfl (by decide +kernel) ⟨Nat.le_of_ble_eq_true rfl, Nat.le_of_ble_eq_true rfl⟩) EB_X hE hK hP hD hS hA 35 (ci := 6) rfl rfl rfl rfl hl.1 rfl (Nat.le_of_ble_eq_true rfl) dX7_settle_84 ⟨Nat.zero_le _, Nat.zero_le _⟩ (fun H locs hP hD hS => ?_)
      obtain ⟨v3, hc, h⟩ := bd1_use h
      refine cv_i (As := [.int x1, .long v2]) (rest := [.int ((x1 * (16 : Int32)) + x2), .ref (a 40)]) ⟨hx, hb, hml, hown, hts⟩ (kX7_withRow l n dC dI cB cI cJ cZ a adK adV _ ww_latestFault tp_bytes tp_size rd_fault rd_faultPlace rd_kind rd_start rd_at rd_number dr_letterMarks dr_names dr_spelled dr_rows dr_alike dr_near dr_asks dr_letters dr_words dr_askCount sh_lanes sh_sizes sh_cells la_xs la_ys la_heights la_ridgeXs la_ridgeHeights la_way la_blurs la_steps la_places la_ridges la_wayBlur la_wayLength bk_times bk_froms bk_asks bk_words bk_firsts bk_lies bk_held bk_size nu_learned nu_size to_letterMarks to_names to_spelled to_rows to_alike to_near to_asks to_letters to_words to_askCount x1 v2 v3 hc) (cwV 2 hts gX7_settle_X7_withRow rfl rfl rfl (by decide +kernel) ⟨Nat.le_of_ble_eq_true rfl, Nat.le_of_ble_eq_true rfl⟩) EB_X hE hK hP hD hS hA 35 (ci := 6) rfl rfl rfl rfl hl.1 rfl (Nat.le_of_ble_eq_true rfl) dX7_settle_87 ⟨Nat.zero_le _, Nat.zero_le _⟩ (fun H locs hP hD hS => ?_)
      obtain ⟨hif4, f4, ef4, h⟩ := aw_use h
      refine sX_told_alike hx hb hK hP hD hS hif4 ef4 dX7_settle_90 (fun H locs hP hD hS => ?_)
      refine lv_iinc (v := x2 + 1) (lv' := [(2, .int (x2 + 1)), (0, .ref (a 35)), (1, .int x1)]) hx hb dX7_settle_91 hl (k := 2) rfl rfl (by decide) rfl (fun ls hl => ?_)
      refine lv_goto (tgt := 61) hx hb dX7_settle_94 (by decide) ?_
      exact ih f4 (x2 + 1) _ _ ls h hP hD hS (lv_sub hl [1, 2, 0] rfl)
theorem kX7_settle_p61 {p : Program} {l : Launch} {e : Env} {s : State} {m : MethodId} {args : Array Value} {below : List Frame} {meth : Method} {c : Code} {A : Nat → Prop} (dC : Nat → ClassId) (dI : Nat → Nat → Nat) (cB cI cJ cZ : ClassId) (a : Nat → Nat) (adK adV : Nat → Nat) (C0 : cxt cX7_settle none 3 RX7 wsX7_settle (dC, dI) (tyz cB cI cJ cZ) (E_X adK adV) A p s m args meth c) (n : Nat) (ww_latestFault : Int32) (tp_bytes : Nat → Int32) (tp_size : Int32) (rd_fault : Int32) (rd_faultPlace : Int32) (rd_kind : Int32) (rd_start : Int32) (rd_at : Int32) (rd_number : Int32) (dr_letterMarks : Nat → Int32) (dr_names : Nat → Int64) (dr_spelled : Nat → Int32) (dr_rows : Nat → Int64) (dr_alike : Nat → Int32) (dr_near : Nat → Int32) (dr_asks : Nat → Int32) (dr_letters : Int32) (dr_words : Int32) (dr_askCount : Int32) (sh_lanes : Nat → Int32) (sh_sizes : Nat → Int32) (sh_cells : Nat → Int32) (la_xs : Nat → Int32) (la_ys : Nat → Int32) (la_heights : Nat → Int32) (la_ridgeXs : Nat → Int32) (la_ridgeHeights : Nat → Int32) (la_way : Nat → Int32) (la_blurs : Nat → Int32) (la_steps : Nat → Int32) (la_places : Int32) (la_ridges : Int32) (la_wayBlur : Int32) (la_wayLength : Int32) (bk_times : Nat → Int32) (bk_froms : Nat → Int32) (bk_asks : Nat → Int32) (bk_words : Nat → Int32) (bk_firsts : Nat → Int32) (bk_lies : Nat → Int32) (bk_held : Nat → Int32) (bk_size : Int32) (nu_learned : Nat → Int32) (nu_size : Int32) (to_letterMarks : Nat → Int32) (to_names : Nat → Int64) (to_spelled : Nat → Int32) (to_rows : Nat → Int64) (to_alike : Nat → Int32) (to_near : Nat → Int32) (to_asks : Nat → Int32) (to_letters : Int32) (to_words : Int32) (to_askCount : Int32)  (x1 : Int32) (x2 : Int32) (z_to_rows : Nat → Int64) (z_to_alike : Nat → Int32) (z_to_near : Nat → Int32) (rec53 : (Nat → Int32) → Int32 → Option ((Nat → Int64) × (Nat → Int32) × (Nat → Int32))) (hrec53 : ∀ (y_to_alike : Nat → Int32) (y_x1 : Int32) (H : Heap) (locs : List Loc) (ls : Array Slot), rec53 y_to_alike y_x1 = some (z_to_rows, z_to_alike, z_to_near) → va_P (dC, dI) vwCl (wX cB cI cJ cZ a (a 35) (a 4) ww_latestFault tp_bytes tp_size rd_fault rd_faultPlace rd_kind rd_start rd_at rd_number dr_letterMarks dr_names dr_spelled dr_rows dr_alike dr_near dr_asks dr_letters dr_words dr_askCount sh_lanes sh_sizes sh_cells la_xs la_ys la_heights la_ridgeXs la_ridgeHeights la_way la_blurs la_steps la_places la_ridges la_wayBlur la_wayLength bk_times bk_froms bk_asks bk_words bk_firsts bk_lies bk_held bk_size nu_learned nu_size to_letterMarks to_names to_spelled to_rows y_to_alike to_near to_asks to_letters to_words to_askCount) H → va_D A (wX cB cI cJ cZ a (a 35) (a 4) ww_latestFault tp_bytes tp_size rd_fault rd_faultPlace rd_kind rd_start rd_at rd_number dr_letterMarks dr_names dr_spelled dr_rows dr_alike dr_near dr_asks dr_letters dr_words dr_askCount sh_lanes sh_sizes sh_cells la_xs la_ys la_heights la_ridgeXs la_ridgeHeights la_way la_blurs la_steps la_places la_ridges la_wayBlur la_wayLength bk_times bk_froms bk_asks bk_words bk_firsts bk_lies bk_held bk_size nu_learned nu_size to_letterMarks to_names to_spelled to_rows y_to_alike to_near to_asks to_letters to_words to_askCount) → va_S A s.heap H locs → lv_has ls 3 [(0, .ref (a 35)), (1, .int y_x1)] → W p l e { frames := 4, cells := 0, slots := 0, locals := 93 } s m args below meth c H locs 0 0 (MQ below (gV (dC, dI) (tyz cB cI cJ cZ) (wX cB cI cJ cZ a (a 35) (a 4) ww_latestFault tp_bytes tp_size rd_fault rd_faultPlace rd_kind rd_start rd_at rd_number dr_letterMarks dr_names dr_spelled dr_rows dr_alike dr_near dr_asks dr_letters dr_words dr_askCount sh_lanes sh_sizes sh_cells la_xs la_ys la_heights la_ridgeXs la_ridgeHeights la_way la_blurs la_steps la_places la_ridges la_wayBlur la_wayLength bk_times bk_froms bk_asks bk_words bk_firsts bk_lies bk_held bk_size nu_learned nu_size to_letterMarks to_names to_spelled z_to_rows z_to_alike z_to_near to_asks to_letters to_words to_askCount) A) args s 0 0 A) (F0 m 53 ls [])) (k : Nat) (H : Heap) (locs : List Loc) (ls : Array Slot) : fX7_settle_p61 n to_rows to_near to_words x1 rec53 k to_alike x2 = some (z_to_rows, z_to_alike, z_to_near) → va_P (dC, dI) vwCl (wX cB cI cJ cZ a (a 35) (a 4) ww_latestFault tp_bytes tp_size rd_fault rd_faultPlace rd_kind rd_start rd_at rd_number dr_letterMarks dr_names dr_spelled dr_rows dr_alike dr_near dr_asks dr_letters dr_words dr_askCount sh_lanes sh_sizes sh_cells la_xs la_ys la_heights la_ridgeXs la_ridgeHeights la_way la_blurs la_steps la_places la_ridges la_wayBlur la_wayLength bk_times bk_froms bk_asks bk_words bk_firsts bk_lies bk_held bk_size nu_learned nu_size to_letterMarks to_names to_spelled to_rows to_alike to_near to_asks to_letters to_words to_askCount) H → va_D A (wX cB cI cJ cZ a (a 35) (a 4) ww_latestFault tp_bytes tp_size rd_fault rd_faultPlace rd_kind rd_start rd_at rd_number dr_letterMarks dr_names dr_spelled dr_rows dr_alike dr_near dr_asks dr_letters dr_words dr_askCount sh_lanes sh_sizes sh_cells la_xs la_ys la_heights la_ridgeXs la_ridgeHeights la_way la_blurs la_steps la_places la_ridges la_wayBlur la_wayLength bk_times bk_froms bk_asks bk_words bk_firsts bk_lies bk_held bk_size nu_learned nu_size to_letterMarks to_names to_spelled to_rows to_alike to_near to_asks to_letters to_words to_askCount) → va_S A s.heap H locs → lv_has ls 3 [(0, .ref (a 35)), (1, .int x1), (2, .int x2)] → W p l e { frames := 4, cells := 0, slots := 0, locals := 93 } s m args below meth c H locs 0 0 (MQ below (gV (dC, dI) (tyz cB cI cJ cZ) (wX cB cI cJ cZ a (a 35) (a 4) ww_latestFault tp_bytes tp_size rd_fault rd_faultPlace rd_kind rd_start rd_at rd_number dr_letterMarks dr_names dr_spelled dr_rows dr_alike dr_near dr_asks dr_letters dr_words dr_askCount sh_lanes sh_sizes sh_cells la_xs la_ys la_heights la_ridgeXs la_ridgeHeights la_way la_blurs la_steps la_places la_ridges la_wayBlur la_wayLength bk_times bk_froms bk_asks bk_words bk_firsts bk_lies bk_held bk_size nu_learned nu_size to_letterMarks to_names to_spelled z_to_rows z_to_alike z_to_near to_asks to_letters to_words to_askCount) A) args s 0 0 A) (F0 m 61 ls []) :=
  kX7_settle_p61_r dC dI cB cI cJ cZ a adK adV C0 n ww_latestFault tp_bytes tp_size rd_fault rd_faultPlace rd_kind rd_start rd_at rd_number dr_letterMarks dr_names dr_spelled dr_rows dr_alike dr_near dr_asks dr_letters dr_words dr_askCount sh_lanes sh_sizes sh_cells la_xs la_ys la_heights la_ridgeXs la_ridgeHeights la_way la_blurs la_steps la_places la_ridges la_wayBlur la_wayLength bk_times bk_froms bk_asks bk_words bk_firsts bk_lies bk_held bk_size nu_learned nu_size to_letterMarks to_names to_spelled to_rows to_near to_asks to_letters to_words to_askCount x1 z_to_rows z_to_alike z_to_near rec53 hrec53 k to_alike x2 H locs ls
set_option maxHeartbeats 4000000 in
set_option maxRecDepth 100000 in
theorem kX7_settle_p105_r {p : Program} {l : Launch} {e : Env} {s : State} {m : MethodId} {args : Array Value} {below : List Frame} {meth : Method} {c : Code} {A : Nat → Prop} (dC : Nat → ClassId) (dI : Nat → Nat → Nat) (cB cI cJ cZ : ClassId) (a : Nat → Nat) (adK adV : Nat → Nat) (C0 : cxt cX7_settle none 3 RX7 wsX7_settle (dC, dI) (tyz cB cI cJ cZ) (E_X adK adV) A p s m args meth c) (n : Nat) (ww_latestFault : Int32) (tp_bytes : Nat → Int32) (tp_size : Int32) (rd_fault : Int32) (rd_faultPlace : Int32) (rd_kind : Int32) (rd_start : Int32) (rd_at : Int32) (rd_number : Int32) (dr_letterMarks : Nat → Int32) (dr_names : Nat → Int64) (dr_spelled : Nat → Int32) (dr_rows : Nat → Int64) (dr_alike : Nat → Int32) (dr_near : Nat → Int32) (dr_asks : Nat → Int32) (dr_letters : Int32) (dr_words : Int32) (dr_askCount : Int32) (sh_lanes : Nat → Int32) (sh_sizes : Nat → Int32) (sh_cells : Nat → Int32) (la_xs : Nat → Int32) (la_ys : Nat → Int32) (la_heights : Nat → Int32) (la_ridgeXs : Nat → Int32) (la_ridgeHeights : Nat → Int32) (la_way : Nat → Int32) (la_blurs : Nat → Int32) (la_steps : Nat → Int32) (la_places : Int32) (la_ridges : Int32) (la_wayBlur : Int32) (la_wayLength : Int32) (bk_times : Nat → Int32) (bk_froms : Nat → Int32) (bk_asks : Nat → Int32) (bk_words : Nat → Int32) (bk_firsts : Nat → Int32) (bk_lies : Nat → Int32) (bk_held : Nat → Int32) (bk_size : Int32) (nu_learned : Nat → Int32) (nu_size : Int32) (to_letterMarks : Nat → Int32) (to_names : Nat → Int64) (to_spelled : Nat → Int32) (to_rows : Nat → Int64) (to_alike : Nat → Int32) (to_asks : Nat → Int32) (to_letters : Int32) (to_words : Int32) (to_askCount : Int32)  (z_to_rows : Nat → Int64) (z_to_alike : Nat → Int32) (z_to_near : Nat → Int32)  : ∀ (k : Nat) (to_near : Nat → Int32) (x1 : Int32) (H : Heap) (locs : List Loc) (ls : Array Slot), fX7_settle_p105 n to_rows to_alike to_words k to_near x1 = some (z_to_rows, z_to_alike, z_to_near) → va_P (dC, dI) vwCl (wX cB cI cJ cZ a (a 35) (a 4) ww_latestFault tp_bytes tp_size rd_fault rd_faultPlace rd_kind rd_start rd_at rd_number dr_letterMarks dr_names dr_spelled dr_rows dr_alike dr_near dr_asks dr_letters dr_words dr_askCount sh_lanes sh_sizes sh_cells la_xs la_ys la_heights la_ridgeXs la_ridgeHeights la_way la_blurs la_steps la_places la_ridges la_wayBlur la_wayLength bk_times bk_froms bk_asks bk_words bk_firsts bk_lies bk_held bk_size nu_learned nu_size to_letterMarks to_names to_spelled to_rows to_alike to_near to_asks to_letters to_words to_askCount) H → va_D A (wX cB cI cJ cZ a (a 35) (a 4) ww_latestFault tp_bytes tp_size rd_fault rd_faultPlace rd_kind rd_start rd_at rd_number dr_letterMarks dr_names dr_spelled dr_rows dr_alike dr_near dr_asks dr_letters dr_words dr_askCount sh_lanes sh_sizes sh_cells la_xs la_ys la_heights la_ridgeXs la_ridgeHeights la_way la_blurs la_steps la_places la_ridges la_wayBlur la_wayLength bk_times bk_froms bk_asks bk_words bk_firsts bk_lies bk_held bk_size nu_learned nu_size to_letterMarks to_names to_spelled to_rows to_alike to_near to_asks to_letters to_words to_askCount) → va_S A s.heap H locs → lv_has ls 3 [(0, .ref (a 35)), (1, .int x1)] → W p l e { frames := 4, cells := 0, slots := 0, locals := 93 } s m args below meth c H locs 0 0 (MQ below (gV (dC, dI) (tyz cB cI cJ cZ) (wX cB cI cJ cZ a (a 35) (a 4) ww_latestFault tp_bytes tp_size rd_fault rd_faultPlace rd_kind rd_start rd_at rd_number dr_letterMarks dr_names dr_spelled dr_rows dr_alike dr_near dr_asks dr_letters dr_words dr_askCount sh_lanes sh_sizes sh_cells la_xs la_ys la_heights la_ridgeXs la_ridgeHeights la_way la_blurs la_steps la_places la_ridges la_wayBlur la_wayLength bk_times bk_froms bk_asks bk_words bk_firsts bk_lies bk_held bk_size nu_learned nu_size to_letterMarks to_names to_spelled z_to_rows z_to_alike z_to_near to_asks to_letters to_words to_askCount) A) args s 0 0 A) (F0 m 105 ls []) := by
  obtain ⟨hx, hb, hr, hml, hown, hts, hlocks, hK, hA, hE⟩ := id C0
  have hw0 := hts (.fieldLink RX7 44 "WhistledWords$Tongue" "words" "I") (by decide +kernel)
  have hw1 := hts (.fieldLink RX7 34 "WhistledWords$Tongue" "near" "[I") (by decide +kernel)
  have hnX7 : ∀ w ∈ u_ws RX7 TX7 10, w ∈ wsX7_settle := fun _ h => List.mem_cons_of_mem _ (List.mem_append_right _ h)
  intro k
  induction k with
  | zero =>
    intro to_near x1 H locs ls h
    cases h
  | succ k ih =>
    intro to_near x1 H locs ls h hP hD hS hl
    rw [fX7_settle_p105] at h
    refine lv_iload_n hx hb dX7_settle_105 rfl (lv_at hl 1 rfl) ?_
    refine lv_aload_n hx hb dX7_settle_106 rfl (lv_at hl 0 rfl) ?_
    refine gX_told_words hx hb hts hnX7 hown hK hP hw0 dX7_settle_107 ?_
    refine lv_icmp_ge (tgt := 130) hx hb dX7_settle_110 (by decide) (fun c1 => ?_) (fun c1 => ?_)
    · have h := it_use c1 h
      obtain ⟨ez0, ez1, ez2⟩ := rt3_use h
      subst ez0
      subst ez1
      subst ez2
      exact re_v hx hb hr hlocks hK hP hD hS dX7_settle_130
    · have h := ie_use c1 h
      refine lv_aload_n hx hb dX7_settle_113 rfl (lv_at hl 0 rfl) ?_
      refine gX_told_near hx hb hts hnX7 hown hK hP hw1 dX7_settle_114 ?_
      refine lv_iload_n hx hb dX7_settle_117 rfl (lv_at hl 1 rfl) ?_
      refine lv_aload_n hx hb dX7_settle_118 rfl (lv_at hl 0 rfl) ?_
      refine lv_iload_n hx hb dX7_settle_119 rfl (lv_at hl 1 rfl) ?_
      obtain ⟨v2, hc, h⟩ := bd1_use h
      refine cv_i (As := [.int x1]) (rest := [.int x1, .ref (a 41)]) ⟨hx, hb, hml, hown, hts⟩ (kX7_differingInOneFrom l n dC dI cB cI cJ cZ a adK adV _ ww_latestFault tp_bytes tp_size rd_fault rd_faultPlace rd_kind rd_start rd_at rd_number dr_letterMarks dr_names dr_spelled dr_rows dr_alike dr_near dr_asks dr_letters dr_words dr_askCount sh_lanes sh_sizes sh_cells la_xs la_ys la_heights la_ridgeXs la_ridgeHeights la_way la_blurs la_steps la_places la_ridges la_wayBlur la_wayLength bk_times bk_froms bk_asks bk_words bk_firsts bk_lies bk_held bk_size nu_learned nu_size to_letterMarks to_names to_spelled to_rows to_alike to_near to_asks to_letters to_words to_askCount x1 v2 hc) (cwV 1 hts gX7_settle_X7_differingInOneFrom rfl rfl rfl (by decide +kernel) ⟨Nat.le_of_ble_eq_true rfl, Nat.le_of_ble_eq_true rfl⟩) EB_X hE hK hP hD hS hA 35 (ci := 6) rfl rfl rfl rfl hl.1 rfl (Nat.le_of_ble_eq_true rfl) dX7_settle_120 ⟨Nat.zero_le _, Nat.zero_le _⟩ (fun H locs hP hD hS => ?_)
      obtain ⟨hif3, f3, ef3, h⟩ := aw_use h
      refine sX_told_near hx hb hK hP hD hS hif3 ef3 dX7_settle_123 (fun H locs hP hD hS => ?_)
      refine lv_iinc (v := x1 + 1) (lv' := [(1, .int (x1 + 1)), (0, .ref (a 35))]) hx hb dX7_settle_124 hl (k := 1) rfl rfl (by decide) rfl (fun ls hl => ?_)
      refine lv_goto (tgt := 105) hx hb dX7_settle_127 (by decide) ?_
      exact ih f3 (x1 + 1) _ _ ls h hP hD hS (lv_sub hl [1, 0] rfl)
theorem kX7_settle_p105 {p : Program} {l : Launch} {e : Env} {s : State} {m : MethodId} {args : Array Value} {below : List Frame} {meth : Method} {c : Code} {A : Nat → Prop} (dC : Nat → ClassId) (dI : Nat → Nat → Nat) (cB cI cJ cZ : ClassId) (a : Nat → Nat) (adK adV : Nat → Nat) (C0 : cxt cX7_settle none 3 RX7 wsX7_settle (dC, dI) (tyz cB cI cJ cZ) (E_X adK adV) A p s m args meth c) (n : Nat) (ww_latestFault : Int32) (tp_bytes : Nat → Int32) (tp_size : Int32) (rd_fault : Int32) (rd_faultPlace : Int32) (rd_kind : Int32) (rd_start : Int32) (rd_at : Int32) (rd_number : Int32) (dr_letterMarks : Nat → Int32) (dr_names : Nat → Int64) (dr_spelled : Nat → Int32) (dr_rows : Nat → Int64) (dr_alike : Nat → Int32) (dr_near : Nat → Int32) (dr_asks : Nat → Int32) (dr_letters : Int32) (dr_words : Int32) (dr_askCount : Int32) (sh_lanes : Nat → Int32) (sh_sizes : Nat → Int32) (sh_cells : Nat → Int32) (la_xs : Nat → Int32) (la_ys : Nat → Int32) (la_heights : Nat → Int32) (la_ridgeXs : Nat → Int32) (la_ridgeHeights : Nat → Int32) (la_way : Nat → Int32) (la_blurs : Nat → Int32) (la_steps : Nat → Int32) (la_places : Int32) (la_ridges : Int32) (la_wayBlur : Int32) (la_wayLength : Int32) (bk_times : Nat → Int32) (bk_froms : Nat → Int32) (bk_asks : Nat → Int32) (bk_words : Nat → Int32) (bk_firsts : Nat → Int32) (bk_lies : Nat → Int32) (bk_held : Nat → Int32) (bk_size : Int32) (nu_learned : Nat → Int32) (nu_size : Int32) (to_letterMarks : Nat → Int32) (to_names : Nat → Int64) (to_spelled : Nat → Int32) (to_rows : Nat → Int64) (to_alike : Nat → Int32) (to_near : Nat → Int32) (to_asks : Nat → Int32) (to_letters : Int32) (to_words : Int32) (to_askCount : Int32)  (x1 : Int32) (z_to_rows : Nat → Int64) (z_to_alike : Nat → Int32) (z_to_near : Nat → Int32)  (k : Nat) (H : Heap) (locs : List Loc) (ls : Array Slot) : fX7_settle_p105 n to_rows to_alike to_words k to_near x1 = some (z_to_rows, z_to_alike, z_to_near) → va_P (dC, dI) vwCl (wX cB cI cJ cZ a (a 35) (a 4) ww_latestFault tp_bytes tp_size rd_fault rd_faultPlace rd_kind rd_start rd_at rd_number dr_letterMarks dr_names dr_spelled dr_rows dr_alike dr_near dr_asks dr_letters dr_words dr_askCount sh_lanes sh_sizes sh_cells la_xs la_ys la_heights la_ridgeXs la_ridgeHeights la_way la_blurs la_steps la_places la_ridges la_wayBlur la_wayLength bk_times bk_froms bk_asks bk_words bk_firsts bk_lies bk_held bk_size nu_learned nu_size to_letterMarks to_names to_spelled to_rows to_alike to_near to_asks to_letters to_words to_askCount) H → va_D A (wX cB cI cJ cZ a (a 35) (a 4) ww_latestFault tp_bytes tp_size rd_fault rd_faultPlace rd_kind rd_start rd_at rd_number dr_letterMarks dr_names dr_spelled dr_rows dr_alike dr_near dr_asks dr_letters dr_words dr_askCount sh_lanes sh_sizes sh_cells la_xs la_ys la_heights la_ridgeXs la_ridgeHeights la_way la_blurs la_steps la_places la_ridges la_wayBlur la_wayLength bk_times bk_froms bk_asks bk_words bk_firsts bk_lies bk_held bk_size nu_learned nu_size to_letterMarks to_names to_spelled to_rows to_alike to_near to_asks to_letters to_words to_askCount) → va_S A s.heap H locs → lv_has ls 3 [(0, .ref (a 35)), (1, .int x1)] → W p l e { frames := 4, cells := 0, slots := 0, locals := 93 } s m args below meth c H locs 0 0 (MQ below (gV (dC, dI) (tyz cB cI cJ cZ) (wX cB cI cJ cZ a (a 35) (a 4) ww_latestFault tp_bytes tp_size rd_fault rd_faultPlace rd_kind rd_start rd_at rd_number dr_letterMarks dr_names dr_spelled dr_rows dr_alike dr_near dr_asks dr_letters dr_words dr_askCount sh_lanes sh_sizes sh_cells la_xs la_ys la_heights la_ridgeXs la_ridgeHeights la_way la_blurs la_steps la_places la_ridges la_wayBlur la_wayLength bk_times bk_froms bk_asks bk_words bk_firsts bk_lies bk_held bk_size nu_learned nu_size to_letterMarks to_names to_spelled z_to_rows z_to_alike z_to_near to_asks to_letters to_words to_askCount) A) args s 0 0 A) (F0 m 105 ls []) :=
  kX7_settle_p105_r dC dI cB cI cJ cZ a adK adV C0 n ww_latestFault tp_bytes tp_size rd_fault rd_faultPlace rd_kind rd_start rd_at rd_number dr_letterMarks dr_names dr_spelled dr_rows dr_alike dr_near dr_asks dr_letters dr_words dr_askCount sh_lanes sh_sizes sh_cells la_xs la_ys la_heights la_ridgeXs la_ridgeHeights la_way la_blurs la_steps la_places la_ridges la_wayBlur la_wayLength bk_times bk_froms bk_asks bk_words bk_firsts bk_lies bk_held bk_size nu_learned nu_size to_letterMarks to_names to_spelled to_rows to_alike to_asks to_letters to_words to_askCount  z_to_rows z_to_alike z_to_near  k to_near x1 H locs ls
set_option maxHeartbeats 4000000 in
set_option maxRecDepth 100000 in
theorem kX7_settle_p53_r {p : Program} {l : Launch} {e : Env} {s : State} {m : MethodId} {args : Array Value} {below : List Frame} {meth : Method} {c : Code} {A : Nat → Prop} (dC : Nat → ClassId) (dI : Nat → Nat → Nat) (cB cI cJ cZ : ClassId) (a : Nat → Nat) (adK adV : Nat → Nat) (C0 : cxt cX7_settle none 3 RX7 wsX7_settle (dC, dI) (tyz cB cI cJ cZ) (E_X adK adV) A p s m args meth c) (n : Nat) (ww_latestFault : Int32) (tp_bytes : Nat → Int32) (tp_size : Int32) (rd_fault : Int32) (rd_faultPlace : Int32) (rd_kind : Int32) (rd_start : Int32) (rd_at : Int32) (rd_number : Int32) (dr_letterMarks : Nat → Int32) (dr_names : Nat → Int64) (dr_spelled : Nat → Int32) (dr_rows : Nat → Int64) (dr_alike : Nat → Int32) (dr_near : Nat → Int32) (dr_asks : Nat → Int32) (dr_letters : Int32) (dr_words : Int32) (dr_askCount : Int32) (sh_lanes : Nat → Int32) (sh_sizes : Nat → Int32) (sh_cells : Nat → Int32) (la_xs : Nat → Int32) (la_ys : Nat → Int32) (la_heights : Nat → Int32) (la_ridgeXs : Nat → Int32) (la_ridgeHeights : Nat → Int32) (la_way : Nat → Int32) (la_blurs : Nat → Int32) (la_steps : Nat → Int32) (la_places : Int32) (la_ridges : Int32) (la_wayBlur : Int32) (la_wayLength : Int32) (bk_times : Nat → Int32) (bk_froms : Nat → Int32) (bk_asks : Nat → Int32) (bk_words : Nat → Int32) (bk_firsts : Nat → Int32) (bk_lies : Nat → Int32) (bk_held : Nat → Int32) (bk_size : Int32) (nu_learned : Nat → Int32) (nu_size : Int32) (to_letterMarks : Nat → Int32) (to_names : Nat → Int64) (to_spelled : Nat → Int32) (to_rows : Nat → Int64) (to_near : Nat → Int32) (to_asks : Nat → Int32) (to_letters : Int32) (to_words : Int32) (to_askCount : Int32)  (z_to_rows : Nat → Int64) (z_to_alike : Nat → Int32) (z_to_near : Nat → Int32)  : ∀ (k : Nat) (to_alike : Nat → Int32) (x1 : Int32) (H : Heap) (locs : List Loc) (ls : Array Slot), fX7_settle_p53 n to_rows to_near to_words k to_alike x1 = some (z_to_rows, z_to_alike, z_to_near) → va_P (dC, dI) vwCl (wX cB cI cJ cZ a (a 35) (a 4) ww_latestFault tp_bytes tp_size rd_fault rd_faultPlace rd_kind rd_start rd_at rd_number dr_letterMarks dr_names dr_spelled dr_rows dr_alike dr_near dr_asks dr_letters dr_words dr_askCount sh_lanes sh_sizes sh_cells la_xs la_ys la_heights la_ridgeXs la_ridgeHeights la_way la_blurs la_steps la_places la_ridges la_wayBlur la_wayLength bk_times bk_froms bk_asks bk_words bk_firsts bk_lies bk_held bk_size nu_learned nu_size to_letterMarks to_names to_spelled to_rows to_alike to_near to_asks to_letters to_words to_askCount) H → va_D A (wX cB cI cJ cZ a (a 35) (a 4) ww_latestFault tp_bytes tp_size rd_fault rd_faultPlace rd_kind rd_start rd_at rd_number dr_letterMarks dr_names dr_spelled dr_rows dr_alike dr_near dr_asks dr_letters dr_words dr_askCount sh_lanes sh_sizes sh_cells la_xs la_ys la_heights la_ridgeXs la_ridgeHeights la_way la_blurs la_steps la_places la_ridges la_wayBlur la_wayLength bk_times bk_froms bk_asks bk_words bk_firsts bk_lies bk_held bk_size nu_learned nu_size to_letterMarks to_names to_spelled to_rows to_alike to_near to_asks to_letters to_words to_askCount) → va_S A s.heap H locs → lv_has ls 3 [(0, .ref (a 35)), (1, .int x1)] → W p l e { frames := 4, cells := 0, slots := 0, locals := 93 } s m args below meth c H locs 0 0 (MQ below (gV (dC, dI) (tyz cB cI cJ cZ) (wX cB cI cJ cZ a (a 35) (a 4) ww_latestFault tp_bytes tp_size rd_fault rd_faultPlace rd_kind rd_start rd_at rd_number dr_letterMarks dr_names dr_spelled dr_rows dr_alike dr_near dr_asks dr_letters dr_words dr_askCount sh_lanes sh_sizes sh_cells la_xs la_ys la_heights la_ridgeXs la_ridgeHeights la_way la_blurs la_steps la_places la_ridges la_wayBlur la_wayLength bk_times bk_froms bk_asks bk_words bk_firsts bk_lies bk_held bk_size nu_learned nu_size to_letterMarks to_names to_spelled z_to_rows z_to_alike z_to_near to_asks to_letters to_words to_askCount) A) args s 0 0 A) (F0 m 53 ls []) := by
  obtain ⟨hx, hb, hr, hml, hown, hts, hlocks, hK, hA, hE⟩ := id C0
  intro k
  induction k with
  | zero =>
    intro to_alike x1 H locs ls h
    cases h
  | succ k ih =>
    intro to_alike x1 H locs ls h hP hD hS hl
    rw [fX7_settle_p53] at h
    refine lv_iload_n hx hb dX7_settle_53 rfl (lv_at hl 1 rfl) ?_
    refine lv_bipush (v := 6) hx hb dX7_settle_54 (by decide) ?_
    refine lv_icmp_ge (tgt := 103) hx hb dX7_settle_56 (by decide) (fun c1 => ?_) (fun c1 => ?_)
    · have h := it_use c1 h
      refine lv_iconst (v := 0) hx hb dX7_settle_103 (by decide) ?_
      refine lv_istore_n (lv' := [(1, .int (0 : Int32)), (0, .ref (a 35))]) hx hb dX7_settle_104 rfl hl (by decide) rfl (fun ls hl => ?_)
      exact kX7_settle_p105 dC dI cB cI cJ cZ a adK adV C0 n ww_latestFault tp_bytes tp_size rd_fault rd_faultPlace rd_kind rd_start rd_at rd_number dr_letterMarks dr_names dr_spelled dr_rows dr_alike dr_near dr_asks dr_letters dr_words dr_askCount sh_lanes sh_sizes sh_cells la_xs la_ys la_heights la_ridgeXs la_ridgeHeights la_way la_blurs la_steps la_places la_ridges la_wayBlur la_wayLength bk_times bk_froms bk_asks bk_words bk_firsts bk_lies bk_held bk_size nu_learned nu_size to_letterMarks to_names to_spelled to_rows to_alike to_near to_asks to_letters to_words to_askCount (0 : Int32) z_to_rows z_to_alike z_to_near  n _ _ ls h hP hD hS (lv_sub hl [1, 0] rfl)
    · have h := ie_use c1 h
      refine lv_iconst (v := 0) hx hb dX7_settle_59 (by decide) ?_
      refine lv_istore_n (lv' := [(2, .int (0 : Int32)), (0, .ref (a 35)), (1, .int x1)]) hx hb dX7_settle_60 rfl hl (by decide) rfl (fun ls hl => ?_)
      exact kX7_settle_p61 dC dI cB cI cJ cZ a adK adV C0 n ww_latestFault tp_bytes tp_size rd_fault rd_faultPlace rd_kind rd_start rd_at rd_number dr_letterMarks dr_names dr_spelled dr_rows dr_alike dr_near dr_asks dr_letters dr_words dr_askCount sh_lanes sh_sizes sh_cells la_xs la_ys la_heights la_ridgeXs la_ridgeHeights la_way la_blurs la_steps la_places la_ridges la_wayBlur la_wayLength bk_times bk_froms bk_asks bk_words bk_firsts bk_lies bk_held bk_size nu_learned nu_size to_letterMarks to_names to_spelled to_rows to_alike to_near to_asks to_letters to_words to_askCount x1 (0 : Int32) z_to_rows z_to_alike z_to_near (fX7_settle_p53 n to_rows to_near to_words k) ih n _ _ ls h hP hD hS (lv_sub hl [1, 2, 0] rfl)
theorem kX7_settle_p53 {p : Program} {l : Launch} {e : Env} {s : State} {m : MethodId} {args : Array Value} {below : List Frame} {meth : Method} {c : Code} {A : Nat → Prop} (dC : Nat → ClassId) (dI : Nat → Nat → Nat) (cB cI cJ cZ : ClassId) (a : Nat → Nat) (adK adV : Nat → Nat) (C0 : cxt cX7_settle none 3 RX7 wsX7_settle (dC, dI) (tyz cB cI cJ cZ) (E_X adK adV) A p s m args meth c) (n : Nat) (ww_latestFault : Int32) (tp_bytes : Nat → Int32) (tp_size : Int32) (rd_fault : Int32) (rd_faultPlace : Int32) (rd_kind : Int32) (rd_start : Int32) (rd_at : Int32) (rd_number : Int32) (dr_letterMarks : Nat → Int32) (dr_names : Nat → Int64) (dr_spelled : Nat → Int32) (dr_rows : Nat → Int64) (dr_alike : Nat → Int32) (dr_near : Nat → Int32) (dr_asks : Nat → Int32) (dr_letters : Int32) (dr_words : Int32) (dr_askCount : Int32) (sh_lanes : Nat → Int32) (sh_sizes : Nat → Int32) (sh_cells : Nat → Int32) (la_xs : Nat → Int32) (la_ys : Nat → Int32) (la_heights : Nat → Int32) (la_ridgeXs : Nat → Int32) (la_ridgeHeights : Nat → Int32) (la_way : Nat → Int32) (la_blurs : Nat → Int32) (la_steps : Nat → Int32) (la_places : Int32) (la_ridges : Int32) (la_wayBlur : Int32) (la_wayLength : Int32) (bk_times : Nat → Int32) (bk_froms : Nat → Int32) (bk_asks : Nat → Int32) (bk_words : Nat → Int32) (bk_firsts : Nat → Int32) (bk_lies : Nat → Int32) (bk_held : Nat → Int32) (bk_size : Int32) (nu_learned : Nat → Int32) (nu_size : Int32) (to_letterMarks : Nat → Int32) (to_names : Nat → Int64) (to_spelled : Nat → Int32) (to_rows : Nat → Int64) (to_alike : Nat → Int32) (to_near : Nat → Int32) (to_asks : Nat → Int32) (to_letters : Int32) (to_words : Int32) (to_askCount : Int32)  (x1 : Int32) (z_to_rows : Nat → Int64) (z_to_alike : Nat → Int32) (z_to_near : Nat → Int32)  (k : Nat) (H : Heap) (locs : List Loc) (ls : Array Slot) : fX7_settle_p53 n to_rows to_near to_words k to_alike x1 = some (z_to_rows, z_to_alike, z_to_near) → va_P (dC, dI) vwCl (wX cB cI cJ cZ a (a 35) (a 4) ww_latestFault tp_bytes tp_size rd_fault rd_faultPlace rd_kind rd_start rd_at rd_number dr_letterMarks dr_names dr_spelled dr_rows dr_alike dr_near dr_asks dr_letters dr_words dr_askCount sh_lanes sh_sizes sh_cells la_xs la_ys la_heights la_ridgeXs la_ridgeHeights la_way la_blurs la_steps la_places la_ridges la_wayBlur la_wayLength bk_times bk_froms bk_asks bk_words bk_firsts bk_lies bk_held bk_size nu_learned nu_size to_letterMarks to_names to_spelled to_rows to_alike to_near to_asks to_letters to_words to_askCount) H → va_D A (wX cB cI cJ cZ a (a 35) (a 4) ww_latestFault tp_bytes tp_size rd_fault rd_faultPlace rd_kind rd_start rd_at rd_number dr_letterMarks dr_names dr_spelled dr_rows dr_alike dr_near dr_asks dr_letters dr_words dr_askCount sh_lanes sh_sizes sh_cells la_xs la_ys la_heights la_ridgeXs la_ridgeHeights la_way la_blurs la_steps la_places la_ridges la_wayBlur la_wayLength bk_times bk_froms bk_asks bk_words bk_firsts bk_lies bk_held bk_size nu_learned nu_size to_letterMarks to_names to_spelled to_rows to_alike to_near to_asks to_letters to_words to_askCount) → va_S A s.heap H locs → lv_has ls 3 [(0, .ref (a 35)), (1, .int x1)] → W p l e { frames := 4, cells := 0, slots := 0, locals := 93 } s m args below meth c H locs 0 0 (MQ below (gV (dC, dI) (tyz cB cI cJ cZ) (wX cB cI cJ cZ a (a 35) (a 4) ww_latestFault tp_bytes tp_size rd_fault rd_faultPlace rd_kind rd_start rd_at rd_number dr_letterMarks dr_names dr_spelled dr_rows dr_alike dr_near dr_asks dr_letters dr_words dr_askCount sh_lanes sh_sizes sh_cells la_xs la_ys la_heights la_ridgeXs la_ridgeHeights la_way la_blurs la_steps la_places la_ridges la_wayBlur la_wayLength bk_times bk_froms bk_asks bk_words bk_firsts bk_lies bk_held bk_size nu_learned nu_size to_letterMarks to_names to_spelled z_to_rows z_to_alike z_to_near to_asks to_letters to_words to_askCount) A) args s 0 0 A) (F0 m 53 ls []) :=
  kX7_settle_p53_r dC dI cB cI cJ cZ a adK adV C0 n ww_latestFault tp_bytes tp_size rd_fault rd_faultPlace rd_kind rd_start rd_at rd_number dr_letterMarks dr_names dr_spelled dr_rows dr_alike dr_near dr_asks dr_letters dr_words dr_askCount sh_lanes sh_sizes sh_cells la_xs la_ys la_heights la_ridgeXs la_ridgeHeights la_way la_blurs la_steps la_places la_ridges la_wayBlur la_wayLength bk_times bk_froms bk_asks bk_words bk_firsts bk_lies bk_held bk_size nu_learned nu_size to_letterMarks to_names to_spelled to_rows to_near to_asks to_letters to_words to_askCount  z_to_rows z_to_alike z_to_near  k to_alike x1 H locs ls
set_option maxHeartbeats 4000000 in
set_option maxRecDepth 100000 in
theorem kX7_settle_p2_r {p : Program} {l : Launch} {e : Env} {s : State} {m : MethodId} {args : Array Value} {below : List Frame} {meth : Method} {c : Code} {A : Nat → Prop} (dC : Nat → ClassId) (dI : Nat → Nat → Nat) (cB cI cJ cZ : ClassId) (a : Nat → Nat) (adK adV : Nat → Nat) (C0 : cxt cX7_settle none 3 RX7 wsX7_settle (dC, dI) (tyz cB cI cJ cZ) (E_X adK adV) A p s m args meth c) (n : Nat) (ww_latestFault : Int32) (tp_bytes : Nat → Int32) (tp_size : Int32) (rd_fault : Int32) (rd_faultPlace : Int32) (rd_kind : Int32) (rd_start : Int32) (rd_at : Int32) (rd_number : Int32) (dr_letterMarks : Nat → Int32) (dr_names : Nat → Int64) (dr_spelled : Nat → Int32) (dr_rows : Nat → Int64) (dr_alike : Nat → Int32) (dr_near : Nat → Int32) (dr_asks : Nat → Int32) (dr_letters : Int32) (dr_words : Int32) (dr_askCount : Int32) (sh_lanes : Nat → Int32) (sh_sizes : Nat → Int32) (sh_cells : Nat → Int32) (la_xs : Nat → Int32) (la_ys : Nat → Int32) (la_heights : Nat → Int32) (la_ridgeXs : Nat → Int32) (la_ridgeHeights : Nat → Int32) (la_way : Nat → Int32) (la_blurs : Nat → Int32) (la_steps : Nat → Int32) (la_places : Int32) (la_ridges : Int32) (la_wayBlur : Int32) (la_wayLength : Int32) (bk_times : Nat → Int32) (bk_froms : Nat → Int32) (bk_asks : Nat → Int32) (bk_words : Nat → Int32) (bk_firsts : Nat → Int32) (bk_lies : Nat → Int32) (bk_held : Nat → Int32) (bk_size : Int32) (nu_learned : Nat → Int32) (nu_size : Int32) (to_letterMarks : Nat → Int32) (to_names : Nat → Int64) (to_spelled : Nat → Int32) (to_alike : Nat → Int32) (to_near : Nat → Int32) (to_asks : Nat → Int32) (to_letters : Int32) (to_words : Int32) (to_askCount : Int32)  (z_to_rows : Nat → Int64) (z_to_alike : Nat → Int32) (z_to_near : Nat → Int32)  : ∀ (k : Nat) (to_rows : Nat → Int64) (x1 : Int32) (H : Heap) (locs : List Loc) (ls : Array Slot), fX7_settle_p2 n to_alike to_near to_words k to_rows x1 = some (z_to_rows, z_to_alike, z_to_near) → va_P (dC, dI) vwCl (wX cB cI cJ cZ a (a 35) (a 4) ww_latestFault tp_bytes tp_size rd_fault rd_faultPlace rd_kind rd_start rd_at rd_number dr_letterMarks dr_names dr_spelled dr_rows dr_alike dr_near dr_asks dr_letters dr_words dr_askCount sh_lanes sh_sizes sh_cells la_xs la_ys la_heights la_ridgeXs la_ridgeHeights la_way la_blurs la_steps la_places la_ridges la_wayBlur la_wayLength bk_times bk_froms bk_asks bk_words bk_firsts bk_lies bk_held bk_size nu_learned nu_size to_letterMarks to_names to_spelled to_rows to_alike to_near to_asks to_letters to_words to_askCount) H → va_D A (wX cB cI cJ cZ a (a 35) (a 4) ww_latestFault tp_bytes tp_size rd_fault rd_faultPlace rd_kind rd_start rd_at rd_number dr_letterMarks dr_names dr_spelled dr_rows dr_alike dr_near dr_asks dr_letters dr_words dr_askCount sh_lanes sh_sizes sh_cells la_xs la_ys la_heights la_ridgeXs la_ridgeHeights la_way la_blurs la_steps la_places la_ridges la_wayBlur la_wayLength bk_times bk_froms bk_asks bk_words bk_firsts bk_lies bk_held bk_size nu_learned nu_size to_letterMarks to_names to_spelled to_rows to_alike to_near to_asks to_letters to_words to_askCount) → va_S A s.heap H locs → lv_has ls 3 [(0, .ref (a 35)), (1, .int x1)] → W p l e { frames := 4, cells := 0, slots := 0, locals := 93 } s m args below meth c H locs 0 0 (MQ below (gV (dC, dI) (tyz cB cI cJ cZ) (wX cB cI cJ cZ a (a 35) (a 4) ww_latestFault tp_bytes tp_size rd_fault rd_faultPlace rd_kind rd_start rd_at rd_number dr_letterMarks dr_names dr_spelled dr_rows dr_alike dr_near dr_asks dr_letters dr_words dr_askCount sh_lanes sh_sizes sh_cells la_xs la_ys la_heights la_ridgeXs la_ridgeHeights la_way la_blurs la_steps la_places la_ridges la_wayBlur la_wayLength bk_times bk_froms bk_asks bk_words bk_firsts bk_lies bk_held bk_size nu_learned nu_size to_letterMarks to_names to_spelled z_to_rows z_to_alike z_to_near to_asks to_letters to_words to_askCount) A) args s 0 0 A) (F0 m 2 ls []) := by
  obtain ⟨hx, hb, hr, hml, hown, hts, hlocks, hK, hA, hE⟩ := id C0
  intro k
  induction k with
  | zero =>
    intro to_rows x1 H locs ls h
    cases h
  | succ k ih =>
    intro to_rows x1 H locs ls h hP hD hS hl
    rw [fX7_settle_p2] at h
    refine lv_iload_n hx hb dX7_settle_2 rfl (lv_at hl 1 rfl) ?_
    refine lv_bipush (v := 6) hx hb dX7_settle_3 (by decide) ?_
    refine lv_icmp_ge (tgt := 51) hx hb dX7_settle_5 (by decide) (fun c1 => ?_) (fun c1 => ?_)
    · have h := it_use c1 h
      refine lv_iconst (v := 0) hx hb dX7_settle_51 (by decide) ?_
      refine lv_istore_n (lv' := [(1, .int (0 : Int32)), (0, .ref (a 35))]) hx hb dX7_settle_52 rfl hl (by decide) rfl (fun ls hl => ?_)
      exact kX7_settle_p53 dC dI cB cI cJ cZ a adK adV C0 n ww_latestFault tp_bytes tp_size rd_fault rd_faultPlace rd_kind rd_start rd_at rd_number dr_letterMarks dr_names dr_spelled dr_rows dr_alike dr_near dr_asks dr_letters dr_words dr_askCount sh_lanes sh_sizes sh_cells la_xs la_ys la_heights la_ridgeXs la_ridgeHeights la_way la_blurs la_steps la_places la_ridges la_wayBlur la_wayLength bk_times bk_froms bk_asks bk_words bk_firsts bk_lies bk_held bk_size nu_learned nu_size to_letterMarks to_names to_spelled to_rows to_alike to_near to_asks to_letters to_words to_askCount (0 : Int32) z_to_rows z_to_alike z_to_near  n _ _ ls h hP hD hS (lv_sub hl [1, 0] rfl)
    · have h := ie_use c1 h
      refine lv_iconst (v := 0) hx hb dX7_settle_8 (by decide) ?_
      refine lv_istore_n (lv' := [(2, .int (0 : Int32)), (0, .ref (a 35)), (1, .int x1)]) hx hb dX7_settle_9 rfl hl (by decide) rfl (fun ls hl => ?_)
      exact kX7_settle_p10 dC dI cB cI cJ cZ a adK adV C0 n ww_latestFault tp_bytes tp_size rd_fault rd_faultPlace rd_kind rd_start rd_at rd_number dr_letterMarks dr_names dr_spelled dr_rows dr_alike dr_near dr_asks dr_letters dr_words dr_askCount sh_lanes sh_sizes sh_cells la_xs la_ys la_heights la_ridgeXs la_ridgeHeights la_way la_blurs la_steps la_places la_ridges la_wayBlur la_wayLength bk_times bk_froms bk_asks bk_words bk_firsts bk_lies bk_held bk_size nu_learned nu_size to_letterMarks to_names to_spelled to_rows to_alike to_near to_asks to_letters to_words to_askCount x1 (0 : Int32) z_to_rows z_to_alike z_to_near (fX7_settle_p2 n to_alike to_near to_words k) ih n _ _ ls h hP hD hS (lv_sub hl [1, 2, 0] rfl)
theorem kX7_settle_p2 {p : Program} {l : Launch} {e : Env} {s : State} {m : MethodId} {args : Array Value} {below : List Frame} {meth : Method} {c : Code} {A : Nat → Prop} (dC : Nat → ClassId) (dI : Nat → Nat → Nat) (cB cI cJ cZ : ClassId) (a : Nat → Nat) (adK adV : Nat → Nat) (C0 : cxt cX7_settle none 3 RX7 wsX7_settle (dC, dI) (tyz cB cI cJ cZ) (E_X adK adV) A p s m args meth c) (n : Nat) (ww_latestFault : Int32) (tp_bytes : Nat → Int32) (tp_size : Int32) (rd_fault : Int32) (rd_faultPlace : Int32) (rd_kind : Int32) (rd_start : Int32) (rd_at : Int32) (rd_number : Int32) (dr_letterMarks : Nat → Int32) (dr_names : Nat → Int64) (dr_spelled : Nat → Int32) (dr_rows : Nat → Int64) (dr_alike : Nat → Int32) (dr_near : Nat → Int32) (dr_asks : Nat → Int32) (dr_letters : Int32) (dr_words : Int32) (dr_askCount : Int32) (sh_lanes : Nat → Int32) (sh_sizes : Nat → Int32) (sh_cells : Nat → Int32) (la_xs : Nat → Int32) (la_ys : Nat → Int32) (la_heights : Nat → Int32) (la_ridgeXs : Nat → Int32) (la_ridgeHeights : Nat → Int32) (la_way : Nat → Int32) (la_blurs : Nat → Int32) (la_steps : Nat → Int32) (la_places : Int32) (la_ridges : Int32) (la_wayBlur : Int32) (la_wayLength : Int32) (bk_times : Nat → Int32) (bk_froms : Nat → Int32) (bk_asks : Nat → Int32) (bk_words : Nat → Int32) (bk_firsts : Nat → Int32) (bk_lies : Nat → Int32) (bk_held : Nat → Int32) (bk_size : Int32) (nu_learned : Nat → Int32) (nu_size : Int32) (to_letterMarks : Nat → Int32) (to_names : Nat → Int64) (to_spelled : Nat → Int32) (to_rows : Nat → Int64) (to_alike : Nat → Int32) (to_near : Nat → Int32) (to_asks : Nat → Int32) (to_letters : Int32) (to_words : Int32) (to_askCount : Int32)  (x1 : Int32) (z_to_rows : Nat → Int64) (z_to_alike : Nat → Int32) (z_to_near : Nat → Int32)  (k : Nat) (H : Heap) (locs : List Loc) (ls : Array Slot) : fX7_settle_p2 n to_alike to_near to_words k to_rows x1 = some (z_to_rows, z_to_alike, z_to_near) → va_P (dC, dI) vwCl (wX cB cI cJ cZ a (a 35) (a 4) ww_latestFault tp_bytes tp_size rd_fault rd_faultPlace rd_kind rd_start rd_at rd_number dr_letterMarks dr_names dr_spelled dr_rows dr_alike dr_near dr_asks dr_letters dr_words dr_askCount sh_lanes sh_sizes sh_cells la_xs la_ys la_heights la_ridgeXs la_ridgeHeights la_way la_blurs la_steps la_places la_ridges la_wayBlur la_wayLength bk_times bk_froms bk_asks bk_words bk_firsts bk_lies bk_held bk_size nu_learned nu_size to_letterMarks to_names to_spelled to_rows to_alike to_near to_asks to_letters to_words to_askCount) H → va_D A (wX cB cI cJ cZ a (a 35) (a 4) ww_latestFault tp_bytes tp_size rd_fault rd_faultPlace rd_kind rd_start rd_at rd_number dr_letterMarks dr_names dr_spelled dr_rows dr_alike dr_near dr_asks dr_letters dr_words dr_askCount sh_lanes sh_sizes sh_cells la_xs la_ys la_heights la_ridgeXs la_ridgeHeights la_way la_blurs la_steps la_places la_ridges la_wayBlur la_wayLength bk_times bk_froms bk_asks bk_words bk_firsts bk_lies bk_held bk_size nu_learned nu_size to_letterMarks to_names to_spelled to_rows to_alike to_near to_asks to_letters to_words to_askCount) → va_S A s.heap H locs → lv_has ls 3 [(0, .ref (a 35)), (1, .int x1)] → W p l e { frames := 4, cells := 0, slots := 0, locals := 93 } s m args below meth c H locs 0 0 (MQ below (gV (dC, dI) (tyz cB cI cJ cZ) (wX cB cI cJ cZ a (a 35) (a 4) ww_latestFault tp_bytes tp_size rd_fault rd_faultPlace rd_kind rd_start rd_at rd_number dr_letterMarks dr_names dr_spelled dr_rows dr_alike dr_near dr_asks dr_letters dr_words dr_askCount sh_lanes sh_sizes sh_cells la_xs la_ys la_heights la_ridgeXs la_ridgeHeights la_way la_blurs la_steps la_places la_ridges la_wayBlur la_wayLength bk_times bk_froms bk_asks bk_words bk_firsts bk_lies bk_held bk_size nu_learned nu_size to_letterMarks to_names to_spelled z_to_rows z_to_alike z_to_near to_asks to_letters to_words to_askCount) A) args s 0 0 A) (F0 m 2 ls []) :=
  kX7_settle_p2_r dC dI cB cI cJ cZ a adK adV C0 n ww_latestFault tp_bytes tp_size rd_fault rd_faultPlace rd_kind rd_start rd_at rd_number dr_letterMarks dr_names dr_spelled dr_rows dr_alike dr_near dr_asks dr_letters dr_words dr_askCount sh_lanes sh_sizes sh_cells la_xs la_ys la_heights la_ridgeXs la_ridgeHeights la_way la_blurs la_steps la_places la_ridges la_wayBlur la_wayLength bk_times bk_froms bk_asks bk_words bk_firsts bk_lies bk_held bk_size nu_learned nu_size to_letterMarks to_names to_spelled to_alike to_near to_asks to_letters to_words to_askCount  z_to_rows z_to_alike z_to_near  k to_rows x1 H locs ls
set_option maxHeartbeats 4000000 in
set_option maxRecDepth 100000 in
theorem kX7_settle (l : Launch) (n : Nat) (dC : Nat → ClassId) (dI : Nat → Nat → Nat) (cB cI cJ cZ : ClassId) (a : Nat → Nat) (adK adV : Nat → Nat) (sz : Nat) (ww_latestFault : Int32) (tp_bytes : Nat → Int32) (tp_size : Int32) (rd_fault : Int32) (rd_faultPlace : Int32) (rd_kind : Int32) (rd_start : Int32) (rd_at : Int32) (rd_number : Int32) (dr_letterMarks : Nat → Int32) (dr_names : Nat → Int64) (dr_spelled : Nat → Int32) (dr_rows : Nat → Int64) (dr_alike : Nat → Int32) (dr_near : Nat → Int32) (dr_asks : Nat → Int32) (dr_letters : Int32) (dr_words : Int32) (dr_askCount : Int32) (sh_lanes : Nat → Int32) (sh_sizes : Nat → Int32) (sh_cells : Nat → Int32) (la_xs : Nat → Int32) (la_ys : Nat → Int32) (la_heights : Nat → Int32) (la_ridgeXs : Nat → Int32) (la_ridgeHeights : Nat → Int32) (la_way : Nat → Int32) (la_blurs : Nat → Int32) (la_steps : Nat → Int32) (la_places : Int32) (la_ridges : Int32) (la_wayBlur : Int32) (la_wayLength : Int32) (bk_times : Nat → Int32) (bk_froms : Nat → Int32) (bk_asks : Nat → Int32) (bk_words : Nat → Int32) (bk_firsts : Nat → Int32) (bk_lies : Nat → Int32) (bk_held : Nat → Int32) (bk_size : Int32) (nu_learned : Nat → Int32) (nu_size : Int32) (to_letterMarks : Nat → Int32) (to_names : Nat → Int64) (to_spelled : Nat → Int32) (to_rows : Nat → Int64) (to_alike : Nat → Int32) (to_near : Nat → Int32) (to_asks : Nat → Int32) (to_letters : Int32) (to_words : Int32) (to_askCount : Int32)  (z_to_rows : Nat → Int64) (z_to_alike : Nat → Int32) (z_to_near : Nat → Int32) (h : fX7_settle n to_rows to_alike to_near to_words = some (z_to_rows, z_to_alike, z_to_near)) : Met l yX7_settle wsX7_settle ({ frames := 4, cells := 0, slots := 0, locals := 93 }) (gP (dC, dI) (tyz cB cI cJ cZ) (E_X adK adV) (wX cB cI cJ cZ a (a 35) (a 4) ww_latestFault tp_bytes tp_size rd_fault rd_faultPlace rd_kind rd_start rd_at rd_number dr_letterMarks dr_names dr_spelled dr_rows dr_alike dr_near dr_asks dr_letters dr_words dr_askCount sh_lanes sh_sizes sh_cells la_xs la_ys la_heights la_ridgeXs la_ridgeHeights la_way la_blurs la_steps la_places la_ridges la_wayBlur la_wayLength bk_times bk_froms bk_asks bk_words bk_firsts bk_lies bk_held bk_size nu_learned nu_size to_letterMarks to_names to_spelled to_rows to_alike to_near to_asks to_letters to_words to_askCount) sz [.ref (a 35)]) (gV (dC, dI) (tyz cB cI cJ cZ) (wX cB cI cJ cZ a (a 35) (a 4) ww_latestFault tp_bytes tp_size rd_fault rd_faultPlace rd_kind rd_start rd_at rd_number dr_letterMarks dr_names dr_spelled dr_rows dr_alike dr_near dr_asks dr_letters dr_words dr_askCount sh_lanes sh_sizes sh_cells la_xs la_ys la_heights la_ridgeXs la_ridgeHeights la_way la_blurs la_steps la_places la_ridges la_wayBlur la_wayLength bk_times bk_froms bk_asks bk_words bk_firsts bk_lies bk_held bk_size nu_learned nu_size to_letterMarks to_names to_spelled z_to_rows z_to_alike z_to_near to_asks to_letters to_words to_askCount) (va_A (wX cB cI cJ cZ a (a 35) (a 4) ww_latestFault tp_bytes tp_size rd_fault rd_faultPlace rd_kind rd_start rd_at rd_number dr_letterMarks dr_names dr_spelled dr_rows dr_alike dr_near dr_asks dr_letters dr_words dr_askCount sh_lanes sh_sizes sh_cells la_xs la_ys la_heights la_ridgeXs la_ridgeHeights la_way la_blurs la_steps la_places la_ridges la_wayBlur la_wayLength bk_times bk_froms bk_asks bk_words bk_firsts bk_lies bk_held bk_size nu_learned nu_size to_letterMarks to_names to_spelled to_rows to_alike to_near to_asks to_letters to_words to_askCount) sz)) 0 0 (va_A (wX cB cI cJ cZ a (a 35) (a 4) ww_latestFault tp_bytes tp_size rd_fault rd_faultPlace rd_kind rd_start rd_at rd_number dr_letterMarks dr_names dr_spelled dr_rows dr_alike dr_near dr_asks dr_letters dr_words dr_askCount sh_lanes sh_sizes sh_cells la_xs la_ys la_heights la_ridgeXs la_ridgeHeights la_way la_blurs la_steps la_places la_ridges la_wayBlur la_wayLength bk_times bk_froms bk_asks bk_words bk_firsts bk_lies bk_held bk_size nu_learned nu_size to_letterMarks to_names to_spelled to_rows to_alike to_near to_asks to_letters to_words to_askCount) sz) := by
  refine Met.ofW (cc := cX7_settle) (maxL := 3) (ret := none) (by decide) rfl ?_
  intro p e s m args below meth c s₁ B hml hv
  obtain ⟨rfl, hsz, hP, hK, hD0, hE⟩ := hv
  have hx := B.exec
  have hb := B.bytes
  have hr := B.returns
  have hts := atoms_spec (ws := wsX7_settle) B.pre
  have hown : s.vm.findClass RX7 = some m.cls := findClass_of_methodNamed B.named
  have hlocks := B.notSynchronized
  subst hsz
  have hD := hD0.self (sz := s.heap.size)
  have hA : ∀ q : Nat, s.heap.size ≤ q → va_A (wX cB cI cJ cZ a (a 35) (a 4) ww_latestFault tp_bytes tp_size rd_fault rd_faultPlace rd_kind rd_start rd_at rd_number dr_letterMarks dr_names dr_spelled dr_rows dr_alike dr_near dr_asks dr_letters dr_words dr_askCount sh_lanes sh_sizes sh_cells la_xs la_ys la_heights la_ridgeXs la_ridgeHeights la_way la_blurs la_steps la_places la_ridges la_wayBlur la_wayLength bk_times bk_froms bk_asks bk_words bk_firsts bk_lies bk_held bk_size nu_learned nu_size to_letterMarks to_names to_spelled to_rows to_alike to_near to_asks to_letters to_words to_askCount) s.heap.size q := fun q h => Or.inr h
  generalize va_A (wX cB cI cJ cZ a (a 35) (a 4) ww_latestFault tp_bytes tp_size rd_fault rd_faultPlace rd_kind rd_start rd_at rd_number dr_letterMarks dr_names dr_spelled dr_rows dr_alike dr_near dr_asks dr_letters dr_words dr_askCount sh_lanes sh_sizes sh_cells la_xs la_ys la_heights la_ridgeXs la_ridgeHeights la_way la_blurs la_steps la_places la_ridges la_wayBlur la_wayLength bk_times bk_froms bk_asks bk_words bk_firsts bk_lies bk_held bk_size nu_learned nu_size to_letterMarks to_names to_spelled to_rows to_alike to_near to_asks to_letters to_words to_askCount) s.heap.size = A at hD hA hE ⊢
  have hS : va_S A s.heap s.heap [] := va_S.rf
  have C0 : cxt cX7_settle none 3 RX7 wsX7_settle (dC, dI) (tyz cB cI cJ cZ) (E_X adK adV) A p s m ([.ref (a 35)] : List Value).toArray meth c := ⟨hx, hb, hr, hml, hown, hts, hlocks, hK, hA, hE⟩
  have hl := lv_entry ([.ref (a 35)]) (n := 3) (Nat.le_of_ble_eq_true rfl)
  rw [lg_entry_eq]
  generalize (lg_sl ([.ref (a 35)]) ++ List.replicate (3 - (lg_sl ([.ref (a 35)])).length) Slot.unset).toArray = ls at hl ⊢
  have hl : lv_has ls 3 [(0, .ref (a 35))] := hl
  unfold fX7_settle at h
  refine lv_iconst (v := 1) hx hb dX7_settle_0 (by decide) ?_
  refine lv_istore_n (lv' := [(1, .int (1 : Int32)), (0, .ref (a 35))]) hx hb dX7_settle_1 rfl hl (by decide) rfl (fun ls hl => ?_)
  exact kX7_settle_p2 dC dI cB cI cJ cZ a adK adV C0 n ww_latestFault tp_bytes tp_size rd_fault rd_faultPlace rd_kind rd_start rd_at rd_number dr_letterMarks dr_names dr_spelled dr_rows dr_alike dr_near dr_asks dr_letters dr_words dr_askCount sh_lanes sh_sizes sh_cells la_xs la_ys la_heights la_ridgeXs la_ridgeHeights la_way la_blurs la_steps la_places la_ridges la_wayBlur la_wayLength bk_times bk_froms bk_asks bk_words bk_firsts bk_lies bk_held bk_size nu_learned nu_size to_letterMarks to_names to_spelled to_rows to_alike to_near to_asks to_letters to_words to_askCount (1 : Int32) z_to_rows z_to_alike z_to_near  n _ _ ls h hP hD hS (lv_sub hl [1, 0] rfl)
set_option maxHeartbeats 4000000 in
set_option maxRecDepth 100000 in
theorem kX8_tongue (l : Launch) (n : Nat) (dC : Nat → ClassId) (dI : Nat → Nat → Nat) (cB cI cJ cZ : ClassId) (a : Nat → Nat) (adK adV : Nat → Nat) (sz : Nat) (ww_latestFault : Int32) (tp_bytes : Nat → Int32) (tp_size : Int32) (rd_fault : Int32) (rd_faultPlace : Int32) (rd_kind : Int32) (rd_start : Int32) (rd_at : Int32) (rd_number : Int32) (dr_letterMarks : Nat → Int32) (dr_names : Nat → Int64) (dr_spelled : Nat → Int32) (dr_rows : Nat → Int64) (dr_alike : Nat → Int32) (dr_near : Nat → Int32) (dr_asks : Nat → Int32) (dr_letters : Int32) (dr_words : Int32) (dr_askCount : Int32) (sh_lanes : Nat → Int32) (sh_sizes : Nat → Int32) (sh_cells : Nat → Int32) (la_xs : Nat → Int32) (la_ys : Nat → Int32) (la_heights : Nat → Int32) (la_ridgeXs : Nat → Int32) (la_ridgeHeights : Nat → Int32) (la_way : Nat → Int32) (la_blurs : Nat → Int32) (la_steps : Nat → Int32) (la_places : Int32) (la_ridges : Int32) (la_wayBlur : Int32) (la_wayLength : Int32) (bk_times : Nat → Int32) (bk_froms : Nat → Int32) (bk_asks : Nat → Int32) (bk_words : Nat → Int32) (bk_firsts : Nat → Int32) (bk_lies : Nat → Int32) (bk_held : Nat → Int32) (bk_size : Int32) (nu_learned : Nat → Int32) (nu_size : Int32) (to_letterMarks : Nat → Int32) (to_names : Nat → Int64) (to_spelled : Nat → Int32) (to_rows : Nat → Int64) (to_alike : Nat → Int32) (to_near : Nat → Int32) (to_asks : Nat → Int32) (to_letters : Int32) (to_words : Int32) (to_askCount : Int32)  (r0 : Int32) (z_ww_latestFault : Int32) (z_tp_size : Int32) (z_rd_fault : Int32) (z_rd_faultPlace : Int32) (z_rd_kind : Int32) (z_rd_start : Int32) (z_rd_at : Int32) (z_rd_number : Int32) (z_dr_letterMarks : Nat → Int32) (z_dr_names : Nat → Int64) (z_dr_spelled : Nat → Int32) (z_dr_rows : Nat → Int64) (z_dr_alike : Nat → Int32) (z_dr_near : Nat → Int32) (z_dr_asks : Nat → Int32) (z_dr_letters : Int32) (z_dr_words : Int32) (z_dr_askCount : Int32) (z_to_letterMarks : Nat → Int32) (z_to_names : Nat → Int64) (z_to_spelled : Nat → Int32) (z_to_rows : Nat → Int64) (z_to_alike : Nat → Int32) (z_to_near : Nat → Int32) (z_to_asks : Nat → Int32) (z_to_letters : Int32) (z_to_words : Int32) (z_to_askCount : Int32) (h : fX8_tongue n ww_latestFault tp_bytes tp_size rd_fault rd_faultPlace rd_kind rd_start rd_at rd_number dr_letterMarks dr_names dr_spelled dr_rows dr_alike dr_near dr_asks dr_letters dr_words dr_askCount bk_size nu_size to_letterMarks to_names to_spelled to_rows to_alike to_near to_asks to_letters to_words to_askCount = some (r0, z_ww_latestFault, z_tp_size, z_rd_fault, z_rd_faultPlace, z_rd_kind, z_rd_start, z_rd_at, z_rd_number, z_dr_letterMarks, z_dr_names, z_dr_spelled, z_dr_rows, z_dr_alike, z_dr_near, z_dr_asks, z_dr_letters, z_dr_words, z_dr_askCount, z_to_letterMarks, z_to_names, z_to_spelled, z_to_rows, z_to_alike, z_to_near, z_to_asks, z_to_letters, z_to_words, z_to_askCount)) : Met l yX8_tongue wsX8_tongue ({ frames := 7, cells := 0, slots := 0, locals := 148 }) (gP (dC, dI) (tyz cB cI cJ cZ) (E_X adK adV) (wX cB cI cJ cZ a (a 35) (a 4) ww_latestFault tp_bytes tp_size rd_fault rd_faultPlace rd_kind rd_start rd_at rd_number dr_letterMarks dr_names dr_spelled dr_rows dr_alike dr_near dr_asks dr_letters dr_words dr_askCount sh_lanes sh_sizes sh_cells la_xs la_ys la_heights la_ridgeXs la_ridgeHeights la_way la_blurs la_steps la_places la_ridges la_wayBlur la_wayLength bk_times bk_froms bk_asks bk_words bk_firsts bk_lies bk_held bk_size nu_learned nu_size to_letterMarks to_names to_spelled to_rows to_alike to_near to_asks to_letters to_words to_askCount) sz [.ref (a 0)]) (gT (dC, dI) (tyz cB cI cJ cZ) (fun b => (wX cB cI cJ cZ b (b 35) (b 4) z_ww_latestFault tp_bytes z_tp_size z_rd_fault z_rd_faultPlace z_rd_kind z_rd_start z_rd_at z_rd_number z_dr_letterMarks z_dr_names z_dr_spelled z_dr_rows z_dr_alike z_dr_near z_dr_asks z_dr_letters z_dr_words z_dr_askCount sh_lanes sh_sizes sh_cells la_xs la_ys la_heights la_ridgeXs la_ridgeHeights la_way la_blurs la_steps la_places la_ridges la_wayBlur la_wayLength bk_times bk_froms bk_asks bk_words bk_firsts bk_lies bk_held bk_size nu_learned nu_size z_to_letterMarks z_to_names z_to_spelled z_to_rows z_to_alike z_to_near z_to_asks z_to_letters z_to_words z_to_askCount)) (a 0) (va_A (wX cB cI cJ cZ a (a 35) (a 4) ww_latestFault tp_bytes tp_size rd_fault rd_faultPlace rd_kind rd_start rd_at rd_number dr_letterMarks dr_names dr_spelled dr_rows dr_alike dr_near dr_asks dr_letters dr_words dr_askCount sh_lanes sh_sizes sh_cells la_xs la_ys la_heights la_ridgeXs la_ridgeHeights la_way la_blurs la_steps la_places la_ridges la_wayBlur la_wayLength bk_times bk_froms bk_asks bk_words bk_firsts bk_lies bk_held bk_size nu_learned nu_size to_letterMarks to_names to_spelled to_rows to_alike to_near to_asks to_letters to_words to_askCount) sz) r0) 0 0 (va_A (wX cB cI cJ cZ a (a 35) (a 4) ww_latestFault tp_bytes tp_size rd_fault rd_faultPlace rd_kind rd_start rd_at rd_number dr_letterMarks dr_names dr_spelled dr_rows dr_alike dr_near dr_asks dr_letters dr_words dr_askCount sh_lanes sh_sizes sh_cells la_xs la_ys la_heights la_ridgeXs la_ridgeHeights la_way la_blurs la_steps la_places la_ridges la_wayBlur la_wayLength bk_times bk_froms bk_asks bk_words bk_firsts bk_lies bk_held bk_size nu_learned nu_size to_letterMarks to_names to_spelled to_rows to_alike to_near to_asks to_letters to_words to_askCount) sz) := by
  refine Met.ofW (cc := cX8_tongue) (maxL := 3) (ret := (some .int)) (by decide) rfl ?_
  intro p e s m args below meth c s₁ B hml hv
  obtain ⟨rfl, hsz, hP, hK, hD0, hE⟩ := hv
  have hx := B.exec
  have hb := B.bytes
  have hr := B.returns
  have hts := atoms_spec (ws := wsX8_tongue) B.pre
  have hown : s.vm.findClass RX8 = some m.cls := findClass_of_methodNamed B.named
  have hlocks := B.notSynchronized
  subst hsz
  have hD := hD0.self (sz := s.heap.size)
  have hA : ∀ q : Nat, s.heap.size ≤ q → va_A (wX cB cI cJ cZ a (a 35) (a 4) ww_latestFault tp_bytes tp_size rd_fault rd_faultPlace rd_kind rd_start rd_at rd_number dr_letterMarks dr_names dr_spelled dr_rows dr_alike dr_near dr_asks dr_letters dr_words dr_askCount sh_lanes sh_sizes sh_cells la_xs la_ys la_heights la_ridgeXs la_ridgeHeights la_way la_blurs la_steps la_places la_ridges la_wayBlur la_wayLength bk_times bk_froms bk_asks bk_words bk_firsts bk_lies bk_held bk_size nu_learned nu_size to_letterMarks to_names to_spelled to_rows to_alike to_near to_asks to_letters to_words to_askCount) s.heap.size q := fun q h => Or.inr h
  generalize va_A (wX cB cI cJ cZ a (a 35) (a 4) ww_latestFault tp_bytes tp_size rd_fault rd_faultPlace rd_kind rd_start rd_at rd_number dr_letterMarks dr_names dr_spelled dr_rows dr_alike dr_near dr_asks dr_letters dr_words dr_askCount sh_lanes sh_sizes sh_cells la_xs la_ys la_heights la_ridgeXs la_ridgeHeights la_way la_blurs la_steps la_places la_ridges la_wayBlur la_wayLength bk_times bk_froms bk_asks bk_words bk_firsts bk_lies bk_held bk_size nu_learned nu_size to_letterMarks to_names to_spelled to_rows to_alike to_near to_asks to_letters to_words to_askCount) s.heap.size = A at hD hA hE ⊢
  have hS : va_S A s.heap s.heap [] := va_S.rf
  have C0 : cxt cX8_tongue (some .int) 3 RX8 wsX8_tongue (dC, dI) (tyz cB cI cJ cZ) (E_X adK adV) A p s m ([.ref (a 0)] : List Value).toArray meth c := ⟨hx, hb, hr, hml, hown, hts, hlocks, hK, hA, hE⟩
  have hl := lv_entry ([.ref (a 0)]) (n := 3) (Nat.le_of_ble_eq_true rfl)
  rw [lg_entry_eq]
  generalize (lg_sl ([.ref (a 0)]) ++ List.replicate (3 - (lg_sl ([.ref (a 0)])).length) Slot.unset).toArray = ls at hl ⊢
  have hl : lv_has ls 3 [(0, .ref (a 0))] := hl
  have hw0 := hts (.fieldLink RX8 46 "WhistledWords" "book" "LWhistledWords$Book;") (by decide +kernel)
  have hw1 := hts (.fieldLink RX8 75 "WhistledWords$Book" "size" "I") (by decide +kernel)
  have hw2 := hts (.fieldLink RX8 53 "WhistledWords" "nursery" "LWhistledWords$Nursery;") (by decide +kernel)
  have hw3 := hts (.fieldLink RX8 76 "WhistledWords$Nursery" "size" "I") (by decide +kernel)
  have hw4 := hts (.fieldLink RX8 21 "WhistledWords" "reader" "LWhistledWords$TextReader;") (by decide +kernel)
  have hw5 := hts (.fieldLink RX8 10 "WhistledWords" "tape" "LWhistledWords$Tape;") (by decide +kernel)
  have hw6 := hts (.fieldLink RX8 72 "WhistledWords$Tape" "size" "I") (by decide +kernel)
  have hw7 := hts (.fieldLink RX8 81 "WhistledWords$TextReader" "fault" "I") (by decide +kernel)
  have hw8 := hts (.fieldLink RX8 64 "WhistledWords" "latestFault" "I") (by decide +kernel)
  have hw9 := hts (.fieldLink RX8 60 "WhistledWords" "told" "LWhistledWords$Tongue;") (by decide +kernel)
  have hw10 := hts (.fieldLink RX8 87 "WhistledWords$TextReader" "draft" "LWhistledWords$Tongue;") (by decide +kernel)
  have hw11 := hts (.fieldLink RX8 93 "WhistledWords$Tongue" "words" "I") (by decide +kernel)
  have hw12 := hts (.fieldLink RX8 84 "WhistledWords$TextReader" "faultPlace" "I") (by decide +kernel)
  have hnX8 : ∀ w ∈ u_ws RX8 TX8 8, w ∈ wsX8_tongue := fun _ h => List.mem_cons_of_mem _ (List.mem_append_left _ (List.mem_append_left _ (List.mem_append_left _ (List.mem_append_left _ (List.mem_append_left _ (List.mem_append_right _ h))))))
  have hnX0 : ∀ w ∈ u_ws RX0 TX0 9, w ∈ wsX8_tongue := fun _ h => List.mem_cons_of_mem _ (List.mem_append_left _ (List.mem_append_left _ (List.mem_append_left _ (List.mem_append_left _ (List.mem_append_right _ h)))))
  have hnX2 : ∀ w ∈ u_ws RX2 TX2 2, w ∈ wsX8_tongue := fun _ h => List.mem_cons_of_mem _ (List.mem_append_left _ (List.mem_append_left _ (List.mem_append_left _ (List.mem_append_right _ h))))
  have hnX5 : ∀ w ∈ u_ws RX5 TX5 2, w ∈ wsX8_tongue := fun _ h => List.mem_cons_of_mem _ (List.mem_append_left _ (List.mem_append_left _ (List.mem_append_right _ h)))
  have hnX6 : ∀ w ∈ u_ws RX6 TX6 8, w ∈ wsX8_tongue := fun _ h => List.mem_cons_of_mem _ (List.mem_append_left _ (List.mem_append_right _ h))
  have hnX7 : ∀ w ∈ u_ws RX7 TX7 10, w ∈ wsX8_tongue := fun _ h => List.mem_cons_of_mem _ (List.mem_append_right _ h)
  unfold fX8_tongue at h
  refine lv_aload_n hx hb dX8_tongue_0 rfl (lv_at hl 0 rfl) ?_
  refine gX_ww_book hx hb hts hnX8 hown hK hP hw0 dX8_tongue_1 ?_
  refine gX_book_size hx hb hts hnX0 hown hK hP hw1 dX8_tongue_4 ?_
  refine lv_if_gt (tgt := 20) hx hb dX8_tongue_7 (by decide) (fun c1 => ?_) (fun c1 => ?_)
  · have h := it_use c1 h
    refine lv_bipush (v := -2) hx hb dX8_tongue_20 (by decide) ?_
    obtain ⟨er, ez0, ez1, ez2, ez3, ez4, ez5, ez6, ez7, ez8, ez9, ez10, ez11, ez12, ez13, ez14, ez15, ez16, ez17, ez18, ez19, ez20, ez21, ez22, ez23, ez24, ez25, ez26, ez27⟩ := rt29_use h
    subst ez0
    subst ez1
    subst ez2
    subst ez3
    subst ez4
    subst ez5
    subst ez6
    subst ez7
    subst ez8
    subst ez9
    subst ez10
    subst ez11
    subst ez12
    subst ez13
    subst ez14
    subst ez15
    subst ez16
    subst ez17
    subst ez18
    subst ez19
    subst ez20
    subst ez21
    subst ez22
    subst ez23
    subst ez24
    subst ez25
    subst ez26
    subst ez27
    exact re_t (b1 := a) rfl hx hb hr hlocks hK hP hD hS er dX8_tongue_22
  · have h := ie_use c1 h
    refine lv_aload_n hx hb dX8_tongue_10 rfl (lv_at hl 0 rfl) ?_
    refine gX_ww_nursery hx hb hts hnX8 hown hK hP hw2 dX8_tongue_11 ?_
    refine gX_nursery_size hx hb hts hnX2 hown hK hP hw3 dX8_tongue_14 ?_
    refine lv_if_le (tgt := 23) hx hb dX8_tongue_17 (by decide) (fun c2 => ?_) (fun c2 => ?_)
    · have h := it_use c2 h
      refine lv_aload_n hx hb dX8_tongue_23 rfl (lv_at hl 0 rfl) ?_
      refine gX_ww_reader hx hb hts hnX8 hown hK hP hw4 dX8_tongue_24 ?_
      obtain ⟨v3, v4, v5, v6, v7, v8, v9, f10, f11, f12, f13, f14, v15, v16, v17, hc, h⟩ := bd15_use h
      refine cv_i (As := []) (rest := []) ⟨hx, hb, hml, hown, hts⟩ (kX6_readText l n dC dI cB cI cJ cZ a adK adV _ ww_latestFault tp_bytes tp_size rd_fault rd_faultPlace rd_kind rd_start rd_at rd_number dr_letterMarks dr_names dr_spelled dr_rows dr_alike dr_near dr_asks dr_letters dr_words dr_askCount sh_lanes sh_sizes sh_cells la_xs la_ys la_heights la_ridgeXs la_ridgeHeights la_way la_blurs la_steps la_places la_ridges la_wayBlur la_wayLength bk_times bk_froms bk_asks bk_words bk_firsts bk_lies bk_held bk_size nu_learned nu_size to_letterMarks to_names to_spelled to_rows to_alike to_near to_asks to_letters to_words to_askCount  v3 v4 v5 v6 v7 v8 v9 f10 f11 f12 f13 f14 v15 v16 v17 hc) (cwV 0 hts gX8_tongue_X6_readText rfl rfl rfl (by decide +kernel) ⟨Nat.le_of_ble_eq_true rfl, Nat.le_of_ble_eq_true rfl⟩) EB_X hE hK hP hD hS hA 3 (ci := 5) rfl rfl rfl rfl hl.1 rfl (Nat.le_of_ble_eq_true rfl) dX8_tongue_27 ⟨Nat.zero_le _, Nat.zero_le _⟩ (fun H locs hP hD hS => ?_)
      refine lv_istore_n (lv' := [(1, .int v3), (0, .ref (a 0))]) hx hb dX8_tongue_30 rfl hl (by decide) rfl (fun ls hl => ?_)
      refine lv_aload_n hx hb dX8_tongue_31 rfl (lv_at hl 1 rfl) ?_
      refine gX_ww_tape hx hb hts hnX8 hown hK hP hw5 dX8_tongue_32 ?_
      refine lv_iconst (v := 0) hx hb dX8_tongue_35 (by decide) ?_
      refine pX_tape_size hx hb hts hnX5 hown hK hP hD hS hw6 dX8_tongue_36 (fun H locs hP hD hS => ?_)
      refine lv_aload_n hx hb dX8_tongue_39 rfl (lv_at hl 1 rfl) ?_
      refine lv_aload_n hx hb dX8_tongue_40 rfl (lv_at hl 1 rfl) ?_
      refine gX_ww_reader hx hb hts hnX8 hown hK hP hw4 dX8_tongue_41 ?_
      refine gX_reader_fault hx hb hts hnX6 hown hK hP hw7 dX8_tongue_44 ?_
      refine pX_ww_latestFault hx hb hts hnX8 hown hK hP hD hS hw8 dX8_tongue_47 (fun H locs hP hD hS => ?_)
      refine lv_iload_n hx hb dX8_tongue_50 rfl (lv_at hl 0 rfl) ?_
      refine lv_if_ne (tgt := 65) hx hb dX8_tongue_51 (by decide) (fun c18 => ?_) (fun c18 => ?_)
      · have h := ie_use c18 h
        refine lv_aload_n hx hb dX8_tongue_65 rfl (lv_at hl 1 rfl) ?_
        refine gX_ww_told hx hb hts hnX8 hown hK hP hw9 dX8_tongue_66 ?_
        refine lv_astore_n (lv' := [(2, .ref (a 35)), (1, .int v3), (0, .ref (a 0))]) hx hb dX8_tongue_69 rfl hl (by decide) rfl (fun ls hl => ?_)
        refine lv_aload_n hx hb dX8_tongue_70 rfl (lv_at hl 2 rfl) ?_
        refine lv_aload_n hx hb dX8_tongue_71 rfl (lv_at hl 2 rfl) ?_
        refine gX_ww_reader hx hb hts hnX8 hown hK hP hw4 dX8_tongue_72 ?_
        refine gX_reader_draft hx hb hts hnX6 hown hK hP hw10 dX8_tongue_75 ?_
        refine pX_ww_told hx hb hts hnX8 hown hK hP hD hS hw9 dX8_tongue_78 (fun H locs hP hD hS => ?_)
        refine lv_aload_n hx hb dX8_tongue_81 rfl (lv_at hl 2 rfl) ?_
        refine gX_ww_reader hx hb hts hnX8 hown hK hP hw4 dX8_tongue_82 ?_
        refine lv_aload_n hx hb dX8_tongue_85 rfl (lv_at hl 0 rfl) ?_
        refine pX_reader_draft hx hb hts hnX6 hown hK hP hD hS hw10 dX8_tongue_86 (fun H locs hP hD hS => ?_)
        have hP := hP.sub (ws' := (wX cB cI cJ cZ (sw_a a) ((sw_a a) 35) ((sw_a a) 4) v4 tp_bytes ((0 : Int32)) v4 v5 v6 v7 v8 v9 to_letterMarks to_names to_spelled to_rows to_alike to_near to_asks to_letters to_words to_askCount sh_lanes sh_sizes sh_cells la_xs la_ys la_heights la_ridgeXs la_ridgeHeights la_way la_blurs la_steps la_places la_ridges la_wayBlur la_wayLength bk_times bk_froms bk_asks bk_words bk_firsts bk_lies bk_held bk_size nu_learned nu_size f10 f11 f12 f13 dr_alike dr_near f14 v15 v16 v17)) [0, 1, 2, 3, 35, 36, 37, 38, 39, 40, 41, 42, 12, 13, 14, 15, 16, 17, 18, 19, 20, 21, 22, 23, 24, 25, 26, 27, 28, 29, 30, 31, 32, 33, 34, 4, 5, 6, 7, 8, 9, 10, 11] rfl
        have hD := hD.sub (ws' := (wX cB cI cJ cZ (sw_a a) ((sw_a a) 35) ((sw_a a) 4) v4 tp_bytes ((0 : Int32)) v4 v5 v6 v7 v8 v9 to_letterMarks to_names to_spelled to_rows to_alike to_near to_asks to_letters to_words to_askCount sh_lanes sh_sizes sh_cells la_xs la_ys la_heights la_ridgeXs la_ridgeHeights la_way la_blurs la_steps la_places la_ridges la_wayBlur la_wayLength bk_times bk_froms bk_asks bk_words bk_firsts bk_lies bk_held bk_size nu_learned nu_size f10 f11 f12 f13 dr_alike dr_near f14 v15 v16 v17)) [0, 1, 2, 3, 35, 36, 37, 38, 39, 40, 41, 42, 12, 13, 14, 15, 16, 17, 18, 19, 20, 21, 22, 23, 24, 25, 26, 27, 28, 29, 30, 31, 32, 33, 34, 4, 5, 6, 7, 8, 9, 10, 11] (by decide) rfl
        have hl : lv_has ls 3 [(2, .ref ((sw_a a) 4)), (1, .int v3), (0, .ref ((sw_a a) 0))] := hl
        refine lv_aload_n hx hb dX8_tongue_89 rfl (lv_at hl 2 rfl) ?_
        refine gX_ww_told hx hb hts hnX8 hown hK hP hw9 dX8_tongue_90 ?_
        obtain ⟨f19, f20, f21, hc, h⟩ := bd3_use h
        refine cv_v (As := []) (rest := []) ⟨hx, hb, hml, hown, hts⟩ (kX7_settle l n dC dI cB cI cJ cZ (sw_a a) adK adV _ v4 tp_bytes (0 : Int32) v4 v5 v6 v7 v8 v9 to_letterMarks to_names to_spelled to_rows to_alike to_near to_asks to_letters to_words to_askCount sh_lanes sh_sizes sh_cells la_xs la_ys la_heights la_ridgeXs la_ridgeHeights la_way la_blurs la_steps la_places la_ridges la_wayBlur la_wayLength bk_times bk_froms bk_asks bk_words bk_firsts bk_lies bk_held bk_size nu_learned nu_size f10 f11 f12 f13 dr_alike dr_near f14 v15 v16 v17  f19 f20 f21 hc) (cwV 0 hts gX8_tongue_X7_settle rfl rfl rfl (by decide +kernel) ⟨Nat.le_of_ble_eq_true rfl, Nat.le_of_ble_eq_true rfl⟩) EB_X hE hK hP hD hS hA 35 (ci := 6) rfl rfl rfl rfl hl.1 rfl (Nat.le_of_ble_eq_true rfl) dX8_tongue_93 ⟨Nat.zero_le _, Nat.zero_le _⟩ (fun H locs hP hD hS => ?_)
        refine lv_aload_n hx hb dX8_tongue_96 rfl (lv_at hl 2 rfl) ?_
        refine gX_ww_told hx hb hts hnX8 hown hK hP hw9 dX8_tongue_97 ?_
        refine gX_told_words hx hb hts hnX7 hown hK hP hw11 dX8_tongue_100 ?_
        obtain ⟨er, ez0, ez1, ez2, ez3, ez4, ez5, ez6, ez7, ez8, ez9, ez10, ez11, ez12, ez13, ez14, ez15, ez16, ez17, ez18, ez19, ez20, ez21, ez22, ez23, ez24, ez25, ez26, ez27⟩ := rt29_use h
        subst ez0
        subst ez1
        subst ez2
        subst ez3
        subst ez4
        subst ez5
        subst ez6
        subst ez7
        subst ez8
        subst ez9
        subst ez10
        subst ez11
        subst ez12
        subst ez13
        subst ez14
        subst ez15
        subst ez16
        subst ez17
        subst ez18
        subst ez19
        subst ez20
        subst ez21
        subst ez22
        subst ez23
        subst ez24
        subst ez25
        subst ez26
        subst ez27
        exact re_t (b1 := (sw_a a)) rfl hx hb hr hlocks hK hP hD hS er dX8_tongue_103
      · have h := it_use c18 h
        refine lv_bipush (v := -10) hx hb dX8_tongue_54 (by decide) ?_
        refine lv_aload_n hx hb dX8_tongue_56 rfl (lv_at hl 1 rfl) ?_
        refine gX_ww_reader hx hb hts hnX8 hown hK hP hw4 dX8_tongue_57 ?_
        refine gX_reader_faultPlace hx hb hts hnX6 hown hK hP hw12 dX8_tongue_60 ?_
        refine lv_isub hx hb dX8_tongue_63 ?_
        obtain ⟨er, ez0, ez1, ez2, ez3, ez4, ez5, ez6, ez7, ez8, ez9, ez10, ez11, ez12, ez13, ez14, ez15, ez16, ez17, ez18, ez19, ez20, ez21, ez22, ez23, ez24, ez25, ez26, ez27⟩ := rt29_use h
        subst ez0
        subst ez1
        subst ez2
        subst ez3
        subst ez4
        subst ez5
        subst ez6
        subst ez7
        subst ez8
        subst ez9
        subst ez10
        subst ez11
        subst ez12
        subst ez13
        subst ez14
        subst ez15
        subst ez16
        subst ez17
        subst ez18
        subst ez19
        subst ez20
        subst ez21
        subst ez22
        subst ez23
        subst ez24
        subst ez25
        subst ez26
        subst ez27
        exact re_t (b1 := a) rfl hx hb hr hlocks hK hP hD hS er dX8_tongue_64
    · have h := ie_use c2 h
      refine lv_bipush (v := -2) hx hb dX8_tongue_20 (by decide) ?_
      obtain ⟨er, ez0, ez1, ez2, ez3, ez4, ez5, ez6, ez7, ez8, ez9, ez10, ez11, ez12, ez13, ez14, ez15, ez16, ez17, ez18, ez19, ez20, ez21, ez22, ez23, ez24, ez25, ez26, ez27⟩ := rt29_use h
      subst ez0
      subst ez1
      subst ez2
      subst ez3
      subst ez4
      subst ez5
      subst ez6
      subst ez7
      subst ez8
      subst ez9
      subst ez10
      subst ez11
      subst ez12
      subst ez13
      subst ez14
      subst ez15
      subst ez16
      subst ez17
      subst ez18
      subst ez19
      subst ez20
      subst ez21
      subst ez22
      subst ez23
      subst ez24
      subst ez25
      subst ez26
      subst ez27
      exact re_t (b1 := a) rfl hx hb hr hlocks hK hP hD hS er dX8_tongue_22

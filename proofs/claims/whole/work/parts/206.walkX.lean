set_option maxHeartbeats 4000000 in
set_option maxRecDepth 100000 in
theorem kX7_tellLetter_D (l : Launch) (n : Nat) (dC : Nat → ClassId) (dI : Nat → Nat → Nat) (cB cI cJ cZ : ClassId) (a : Nat → Nat) (adK adV : Nat → Nat) (sz : Nat) (ww_latestFault : Int32) (tp_bytes : Nat → Int32) (tp_size : Int32) (rd_fault : Int32) (rd_faultPlace : Int32) (rd_kind : Int32) (rd_start : Int32) (rd_at : Int32) (rd_number : Int32) (dr_letterMarks : Nat → Int32) (dr_names : Nat → Int64) (dr_spelled : Nat → Int32) (dr_rows : Nat → Int64) (dr_alike : Nat → Int32) (dr_near : Nat → Int32) (dr_asks : Nat → Int32) (dr_letters : Int32) (dr_words : Int32) (dr_askCount : Int32) (sh_lanes : Nat → Int32) (sh_sizes : Nat → Int32) (sh_cells : Nat → Int32) (la_xs : Nat → Int32) (la_ys : Nat → Int32) (la_heights : Nat → Int32) (la_ridgeXs : Nat → Int32) (la_ridgeHeights : Nat → Int32) (la_way : Nat → Int32) (la_blurs : Nat → Int32) (la_steps : Nat → Int32) (la_places : Int32) (la_ridges : Int32) (la_wayBlur : Int32) (la_wayLength : Int32) (bk_times : Nat → Int32) (bk_froms : Nat → Int32) (bk_asks : Nat → Int32) (bk_words : Nat → Int32) (bk_firsts : Nat → Int32) (bk_lies : Nat → Int32) (bk_held : Nat → Int32) (bk_size : Int32) (nu_learned : Nat → Int32) (nu_size : Int32) (to_letterMarks : Nat → Int32) (to_names : Nat → Int64) (to_spelled : Nat → Int32) (to_rows : Nat → Int64) (to_alike : Nat → Int32) (to_near : Nat → Int32) (to_asks : Nat → Int32) (to_letters : Int32) (to_words : Int32) (to_askCount : Int32) (x1 : Int32) (x2 : Int32) (z_dr_letterMarks : Nat → Int32) (z_dr_letters : Int32) (h : fX7_tellLetter n dr_letterMarks dr_letters x1 x2 = some (z_dr_letterMarks, z_dr_letters)) : Met l yX7_tellLetter wsX7_tellLetter ({ frames := 0, cells := 0, slots := 0, locals := 0 }) (gP (dC, dI) (tyz cB cI cJ cZ) (E_X adK adV) (wX cB cI cJ cZ a (a 35) (a 4) ww_latestFault tp_bytes tp_size rd_fault rd_faultPlace rd_kind rd_start rd_at rd_number dr_letterMarks dr_names dr_spelled dr_rows dr_alike dr_near dr_asks dr_letters dr_words dr_askCount sh_lanes sh_sizes sh_cells la_xs la_ys la_heights la_ridgeXs la_ridgeHeights la_way la_blurs la_steps la_places la_ridges la_wayBlur la_wayLength bk_times bk_froms bk_asks bk_words bk_firsts bk_lies bk_held bk_size nu_learned nu_size to_letterMarks to_names to_spelled to_rows to_alike to_near to_asks to_letters to_words to_askCount) sz [.ref (a 4), .int x1, .int x2]) (gV (dC, dI) (tyz cB cI cJ cZ) (wX cB cI cJ cZ a (a 35) (a 4) ww_latestFault tp_bytes tp_size rd_fault rd_faultPlace rd_kind rd_start rd_at rd_number z_dr_letterMarks dr_names dr_spelled dr_rows dr_alike dr_near dr_asks z_dr_letters dr_words dr_askCount sh_lanes sh_sizes sh_cells la_xs la_ys la_heights la_ridgeXs la_ridgeHeights la_way la_blurs la_steps la_places la_ridges la_wayBlur la_wayLength bk_times bk_froms bk_asks bk_words bk_firsts bk_lies bk_held bk_size nu_learned nu_size to_letterMarks to_names to_spelled to_rows to_alike to_near to_asks to_letters to_words to_askCount) (va_A (wX cB cI cJ cZ a (a 35) (a 4) ww_latestFault tp_bytes tp_size rd_fault rd_faultPlace rd_kind rd_start rd_at rd_number dr_letterMarks dr_names dr_spelled dr_rows dr_alike dr_near dr_asks dr_letters dr_words dr_askCount sh_lanes sh_sizes sh_cells la_xs la_ys la_heights la_ridgeXs la_ridgeHeights la_way la_blurs la_steps la_places la_ridges la_wayBlur la_wayLength bk_times bk_froms bk_asks bk_words bk_firsts bk_lies bk_held bk_size nu_learned nu_size to_letterMarks to_names to_spelled to_rows to_alike to_near to_asks to_letters to_words to_askCount) sz)) 0 0 (va_A (wX cB cI cJ cZ a (a 35) (a 4) ww_latestFault tp_bytes tp_size rd_fault rd_faultPlace rd_kind rd_start rd_at rd_number dr_letterMarks dr_names dr_spelled dr_rows dr_alike dr_near dr_asks dr_letters dr_words dr_askCount sh_lanes sh_sizes sh_cells la_xs la_ys la_heights la_ridgeXs la_ridgeHeights la_way la_blurs la_steps la_places la_ridges la_wayBlur la_wayLength bk_times bk_froms bk_asks bk_words bk_firsts bk_lies bk_held bk_size nu_learned nu_size to_letterMarks to_names to_spelled to_rows to_alike to_near to_asks to_letters to_words to_askCount) sz) := by
  refine Met.ofW (cc := cX7_tellLetter) (maxL := 3) (ret := none) (by decide) rfl ?_
  intro p e s m args below meth c s₁ B hml hv
  obtain ⟨rfl, hsz, hP, hK, hD0, hE⟩ := hv
  have hx := B.exec
  have hb := B.bytes
  have hr := B.returns
  have hts := atoms_spec (ws := wsX7_tellLetter) B.pre
  have hown : s.vm.findClass RX7 = some m.cls := findClass_of_methodNamed B.named
  have hlocks := B.notSynchronized
  subst hsz
  have hD := hD0.self (sz := s.heap.size)
  have hA : ∀ q : Nat, s.heap.size ≤ q → va_A (wX cB cI cJ cZ a (a 35) (a 4) ww_latestFault tp_bytes tp_size rd_fault rd_faultPlace rd_kind rd_start rd_at rd_number dr_letterMarks dr_names dr_spelled dr_rows dr_alike dr_near dr_asks dr_letters dr_words dr_askCount sh_lanes sh_sizes sh_cells la_xs la_ys la_heights la_ridgeXs la_ridgeHeights la_way la_blurs la_steps la_places la_ridges la_wayBlur la_wayLength bk_times bk_froms bk_asks bk_words bk_firsts bk_lies bk_held bk_size nu_learned nu_size to_letterMarks to_names to_spelled to_rows to_alike to_near to_asks to_letters to_words to_askCount) s.heap.size q := fun q h => Or.inr h
  generalize va_A (wX cB cI cJ cZ a (a 35) (a 4) ww_latestFault tp_bytes tp_size rd_fault rd_faultPlace rd_kind rd_start rd_at rd_number dr_letterMarks dr_names dr_spelled dr_rows dr_alike dr_near dr_asks dr_letters dr_words dr_askCount sh_lanes sh_sizes sh_cells la_xs la_ys la_heights la_ridgeXs la_ridgeHeights la_way la_blurs la_steps la_places la_ridges la_wayBlur la_wayLength bk_times bk_froms bk_asks bk_words bk_firsts bk_lies bk_held bk_size nu_learned nu_size to_letterMarks to_names to_spelled to_rows to_alike to_near to_asks to_letters to_words to_askCount) s.heap.size = A at hD hA hE ⊢
  have hS : va_S A s.heap s.heap [] := va_S.rf
  have C0 : cxt cX7_tellLetter none 3 RX7 wsX7_tellLetter (dC, dI) (tyz cB cI cJ cZ) (E_X adK adV) A p s m ([.ref (a 4), .int x1, .int x2] : List Value).toArray meth c := ⟨hx, hb, hr, hml, hown, hts, hlocks, hK, hA, hE⟩
  have hl := lv_entry ([.ref (a 4), .int x1, .int x2]) (n := 3) (Nat.le_of_ble_eq_true rfl)
  rw [lg_entry_eq]
  generalize (lg_sl ([.ref (a 4), .int x1, .int x2]) ++ List.replicate (3 - (lg_sl ([.ref (a 4), .int x1, .int x2])).length) Slot.unset).toArray = ls at hl ⊢
  have hl : lv_has ls 3 [(0, .ref (a 4)), (1, .int x1), (2, .int x2)] := hl
  have hw0 := hts (.fieldLink RX7 11 "WhistledWords$Tongue" "letterMarks" "[I") (by decide +kernel)
  have hw1 := hts (.fieldLink RX7 40 "WhistledWords$Tongue" "letters" "I") (by decide +kernel)
  have hnX7 : ∀ w ∈ u_ws RX7 TX7 10, w ∈ wsX7_tellLetter := fun _ h => List.mem_cons_of_mem _ (List.mem_append_right _ h)
  unfold fX7_tellLetter at h
  refine lv_aload_n hx hb dX7_tellLetter_0 rfl (lv_at hl 0 rfl) ?_
  refine gX_draft_letterMarks hx hb hts hnX7 hown hK hP hw0 dX7_tellLetter_1 ?_
  refine lv_iload_n hx hb dX7_tellLetter_4 rfl (lv_at hl 1 rfl) ?_
  refine lv_iload_n hx hb dX7_tellLetter_5 rfl (lv_at hl 2 rfl) ?_
  obtain ⟨hif1, f1, ef1, h⟩ := aw_use h
  refine sX_draft_letterMarks hx hb hK hP hD hS hif1 ef1 dX7_tellLetter_6 (fun H locs hP hD hS => ?_)
  refine lv_aload_n hx hb dX7_tellLetter_7 rfl (lv_at hl 0 rfl) ?_
  refine lv_dup hx hb dX7_tellLetter_8 rfl ?_
  refine gX_draft_letters hx hb hts hnX7 hown hK hP hw1 dX7_tellLetter_9 ?_
  refine lv_iconst (v := 1) hx hb dX7_tellLetter_12 (by decide) ?_
  refine lv_iadd hx hb dX7_tellLetter_13 ?_
  refine lv_topi (fun v2 ev2 => ?_)
  have h := nm_use ev2 h
  refine pX_draft_letters hx hb hts hnX7 hown hK hP hD hS hw1 dX7_tellLetter_14 (fun H locs hP hD hS => ?_)
  obtain ⟨ez0, ez1⟩ := rt2_use h
  subst ez0
  subst ez1
  exact re_v hx hb hr hlocks hK hP hD hS dX7_tellLetter_17
set_option maxHeartbeats 4000000 in
set_option maxRecDepth 100000 in
theorem kX6_readNumberedLetter (l : Launch) (n : Nat) (dC : Nat → ClassId) (dI : Nat → Nat → Nat) (cB cI cJ cZ : ClassId) (a : Nat → Nat) (adK adV : Nat → Nat) (sz : Nat) (ww_latestFault : Int32) (tp_bytes : Nat → Int32) (tp_size : Int32) (rd_fault : Int32) (rd_faultPlace : Int32) (rd_kind : Int32) (rd_start : Int32) (rd_at : Int32) (rd_number : Int32) (dr_letterMarks : Nat → Int32) (dr_names : Nat → Int64) (dr_spelled : Nat → Int32) (dr_rows : Nat → Int64) (dr_alike : Nat → Int32) (dr_near : Nat → Int32) (dr_asks : Nat → Int32) (dr_letters : Int32) (dr_words : Int32) (dr_askCount : Int32) (sh_lanes : Nat → Int32) (sh_sizes : Nat → Int32) (sh_cells : Nat → Int32) (la_xs : Nat → Int32) (la_ys : Nat → Int32) (la_heights : Nat → Int32) (la_ridgeXs : Nat → Int32) (la_ridgeHeights : Nat → Int32) (la_way : Nat → Int32) (la_blurs : Nat → Int32) (la_steps : Nat → Int32) (la_places : Int32) (la_ridges : Int32) (la_wayBlur : Int32) (la_wayLength : Int32) (bk_times : Nat → Int32) (bk_froms : Nat → Int32) (bk_asks : Nat → Int32) (bk_words : Nat → Int32) (bk_firsts : Nat → Int32) (bk_lies : Nat → Int32) (bk_held : Nat → Int32) (bk_size : Int32) (nu_learned : Nat → Int32) (nu_size : Int32) (to_letterMarks : Nat → Int32) (to_names : Nat → Int64) (to_spelled : Nat → Int32) (to_rows : Nat → Int64) (to_alike : Nat → Int32) (to_near : Nat → Int32) (to_asks : Nat → Int32) (to_letters : Int32) (to_words : Int32) (to_askCount : Int32) (x1 : Int32) (x2 : Int32) (r0 : Int32) (z_rd_fault : Int32) (z_rd_faultPlace : Int32) (z_rd_kind : Int32) (z_rd_start : Int32) (z_rd_at : Int32) (z_rd_number : Int32) (z_dr_letterMarks : Nat → Int32) (z_dr_letters : Int32) (h : fX6_readNumberedLetter n tp_bytes tp_size rd_fault rd_faultPlace rd_kind rd_start rd_at rd_number dr_letterMarks dr_letters x1 x2 = some (r0, z_rd_fault, z_rd_faultPlace, z_rd_kind, z_rd_start, z_rd_at, z_rd_number, z_dr_letterMarks, z_dr_letters)) : Met l yX6_readNumberedLetter wsX6_readNumberedLetter ({ frames := 3, cells := 0, slots := 0, locals := 62 }) (gP (dC, dI) (tyz cB cI cJ cZ) (E_X adK adV) (wX cB cI cJ cZ a (a 35) (a 4) ww_latestFault tp_bytes tp_size rd_fault rd_faultPlace rd_kind rd_start rd_at rd_number dr_letterMarks dr_names dr_spelled dr_rows dr_alike dr_near dr_asks dr_letters dr_words dr_askCount sh_lanes sh_sizes sh_cells la_xs la_ys la_heights la_ridgeXs la_ridgeHeights la_way la_blurs la_steps la_places la_ridges la_wayBlur la_wayLength bk_times bk_froms bk_asks bk_words bk_firsts bk_lies bk_held bk_size nu_learned nu_size to_letterMarks to_names to_spelled to_rows to_alike to_near to_asks to_letters to_words to_askCount) sz [.ref (a 3), .int x1, .int x2]) (gI (dC, dI) (tyz cB cI cJ cZ) (wX cB cI cJ cZ a (a 35) (a 4) ww_latestFault tp_bytes tp_size z_rd_fault z_rd_faultPlace z_rd_kind z_rd_start z_rd_at z_rd_number z_dr_letterMarks dr_names dr_spelled dr_rows dr_alike dr_near dr_asks z_dr_letters dr_words dr_askCount sh_lanes sh_sizes sh_cells la_xs la_ys la_heights la_ridgeXs la_ridgeHeights la_way la_blurs la_steps la_places la_ridges la_wayBlur la_wayLength bk_times bk_froms bk_asks bk_words bk_firsts bk_lies bk_held bk_size nu_learned nu_size to_letterMarks to_names to_spelled to_rows to_alike to_near to_asks to_letters to_words to_askCount) (va_A (wX cB cI cJ cZ a (a 35) (a 4) ww_latestFault tp_bytes tp_size rd_fault rd_faultPlace rd_kind rd_start rd_at rd_number dr_letterMarks dr_names dr_spelled dr_rows dr_alike dr_near dr_asks dr_letters dr_words dr_askCount sh_lanes sh_sizes sh_cells la_xs la_ys la_heights la_ridgeXs la_ridgeHeights la_way la_blurs la_steps la_places la_ridges la_wayBlur la_wayLength bk_times bk_froms bk_asks bk_words bk_firsts bk_lies bk_held bk_size nu_learned nu_size to_letterMarks to_names to_spelled to_rows to_alike to_near to_asks to_letters to_words to_askCount) sz) r0) 0 0 (va_A (wX cB cI cJ cZ a (a 35) (a 4) ww_latestFault tp_bytes tp_size rd_fault rd_faultPlace rd_kind rd_start rd_at rd_number dr_letterMarks dr_names dr_spelled dr_rows dr_alike dr_near dr_asks dr_letters dr_words dr_askCount sh_lanes sh_sizes sh_cells la_xs la_ys la_heights la_ridgeXs la_ridgeHeights la_way la_blurs la_steps la_places la_ridges la_wayBlur la_wayLength bk_times bk_froms bk_asks bk_words bk_firsts bk_lies bk_held bk_size nu_learned nu_size to_letterMarks to_names to_spelled to_rows to_alike to_near to_asks to_letters to_words to_askCount) sz) := by
  refine Met.ofW (cc := cX6_readNumberedLetter) (maxL := 4) (ret := (some .boolean)) (by decide) rfl ?_
  intro p e s m args below meth c s₁ B hml hv
  obtain ⟨rfl, hsz, hP, hK, hD0, hE⟩ := hv
  have hx := B.exec
  have hb := B.bytes
  have hr := B.returns
  have hts := atoms_spec (ws := wsX6_readNumberedLetter) B.pre
  have hown : s.vm.findClass RX6 = some m.cls := findClass_of_methodNamed B.named
  have hlocks := B.notSynchronized
  subst hsz
  have hD := hD0.self (sz := s.heap.size)
  have hA : ∀ q : Nat, s.heap.size ≤ q → va_A (wX cB cI cJ cZ a (a 35) (a 4) ww_latestFault tp_bytes tp_size rd_fault rd_faultPlace rd_kind rd_start rd_at rd_number dr_letterMarks dr_names dr_spelled dr_rows dr_alike dr_near dr_asks dr_letters dr_words dr_askCount sh_lanes sh_sizes sh_cells la_xs la_ys la_heights la_ridgeXs la_ridgeHeights la_way la_blurs la_steps la_places la_ridges la_wayBlur la_wayLength bk_times bk_froms bk_asks bk_words bk_firsts bk_lies bk_held bk_size nu_learned nu_size to_letterMarks to_names to_spelled to_rows to_alike to_near to_asks to_letters to_words to_askCount) s.heap.size q := fun q h => Or.inr h
  generalize va_A (wX cB cI cJ cZ a (a 35) (a 4) ww_latestFault tp_bytes tp_size rd_fault rd_faultPlace rd_kind rd_start rd_at rd_number dr_letterMarks dr_names dr_spelled dr_rows dr_alike dr_near dr_asks dr_letters dr_words dr_askCount sh_lanes sh_sizes sh_cells la_xs la_ys la_heights la_ridgeXs la_ridgeHeights la_way la_blurs la_steps la_places la_ridges la_wayBlur la_wayLength bk_times bk_froms bk_asks bk_words bk_firsts bk_lies bk_held bk_size nu_learned nu_size to_letterMarks to_names to_spelled to_rows to_alike to_near to_asks to_letters to_words to_askCount) s.heap.size = A at hD hA hE ⊢
  have hS : va_S A s.heap s.heap [] := va_S.rf
  have C0 : cxt cX6_readNumberedLetter (some .boolean) 4 RX6 wsX6_readNumberedLetter (dC, dI) (tyz cB cI cJ cZ) (E_X adK adV) A p s m ([.ref (a 3), .int x1, .int x2] : List Value).toArray meth c := ⟨hx, hb, hr, hml, hown, hts, hlocks, hK, hA, hE⟩
  have hl := lv_entry ([.ref (a 3), .int x1, .int x2]) (n := 4) (Nat.le_of_ble_eq_true rfl)
  rw [lg_entry_eq]
  generalize (lg_sl ([.ref (a 3), .int x1, .int x2]) ++ List.replicate (4 - (lg_sl ([.ref (a 3), .int x1, .int x2])).length) Slot.unset).toArray = ls at hl ⊢
  have hl : lv_has ls 4 [(0, .ref (a 3)), (1, .int x1), (2, .int x2)] := hl
  have hw0 := hts (.fieldLink RX6 51 "WhistledWords$TextReader" "start" "I") (by decide +kernel)
  have hw1 := hts (.fieldLink RX6 95 "WhistledWords$TextReader" "number" "I") (by decide +kernel)
  have hw2 := hts (.fieldLink RX6 18 "WhistledWords$TextReader" "draft" "LWhistledWords$Tongue;") (by decide +kernel)
  have hnX6 : ∀ w ∈ u_ws RX6 TX6 8, w ∈ wsX6_readNumberedLetter := fun _ h => List.mem_cons_of_mem _ (List.mem_append_left _ (List.mem_append_left _ (List.mem_append_right _ h)))
  unfold fX6_readNumberedLetter at h
  refine lv_aload_n hx hb dX6_readNumberedLetter_0 rfl (lv_at hl 0 rfl) ?_
  obtain ⟨v1, v2, v3, v4, v5, v6, v7, hc, h⟩ := bd7_use h
  refine cv_i (As := []) (rest := []) ⟨hx, hb, hml, hown, hts⟩ (kX6_readNewLetter l n dC dI cB cI cJ cZ a adK adV _ ww_latestFault tp_bytes tp_size rd_fault rd_faultPlace rd_kind rd_start rd_at rd_number dr_letterMarks dr_names dr_spelled dr_rows dr_alike dr_near dr_asks dr_letters dr_words dr_askCount sh_lanes sh_sizes sh_cells la_xs la_ys la_heights la_ridgeXs la_ridgeHeights la_way la_blurs la_steps la_places la_ridges la_wayBlur la_wayLength bk_times bk_froms bk_asks bk_words bk_firsts bk_lies bk_held bk_size nu_learned nu_size to_letterMarks to_names to_spelled to_rows to_alike to_near to_asks to_letters to_words to_askCount  v1 v2 v3 v4 v5 v6 v7 hc) (cwV 0 hts gX6_readNumberedLetter_X6_readNewLetter rfl rfl rfl (by decide +kernel) ⟨Nat.le_of_ble_eq_true rfl, Nat.le_of_ble_eq_true rfl⟩) EB_X hE hK hP hD hS hA 3 (ci := 5) rfl rfl rfl rfl hl.1 rfl (Nat.le_of_ble_eq_true rfl) dX6_readNumberedLetter_1 ⟨Nat.zero_le _, Nat.zero_le _⟩ (fun H locs hP hD hS => ?_)
  refine lv_if_ne (tgt := 9) hx hb dX6_readNumberedLetter_4 (by decide) (fun c8 => ?_) (fun c8 => ?_)
  · have h := ie_use c8 h
    refine lv_aload_n hx hb dX6_readNumberedLetter_9 rfl (lv_at hl 0 rfl) ?_
    refine lv_aload_n hx hb dX6_readNumberedLetter_10 rfl (lv_at hl 0 rfl) ?_
    refine gX_reader_start hx hb hts hnX6 hown hK hP hw0 dX6_readNumberedLetter_11 ?_
    obtain ⟨v9, hc, h⟩ := bd1_use h
    refine cv_i (As := [.int v5]) (rest := []) ⟨hx, hb, hml, hown, hts⟩ (kX6_letterAt l n dC dI cB cI cJ cZ a adK adV _ ww_latestFault tp_bytes tp_size v2 v3 v4 v5 v6 v7 dr_letterMarks dr_names dr_spelled dr_rows dr_alike dr_near dr_asks dr_letters dr_words dr_askCount sh_lanes sh_sizes sh_cells la_xs la_ys la_heights la_ridgeXs la_ridgeHeights la_way la_blurs la_steps la_places la_ridges la_wayBlur la_wayLength bk_times bk_froms bk_asks bk_words bk_firsts bk_lies bk_held bk_size nu_learned nu_size to_letterMarks to_names to_spelled to_rows to_alike to_near to_asks to_letters to_words to_askCount v5 v9 hc) (cwV 1 hts gX6_readNumberedLetter_X6_letterAt rfl rfl rfl (by decide +kernel) ⟨Nat.le_of_ble_eq_true rfl, Nat.le_of_ble_eq_true rfl⟩) EB_X hE hK hP hD hS hA 3 (ci := 5) rfl rfl rfl rfl hl.1 rfl (Nat.le_of_ble_eq_true rfl) dX6_readNumberedLetter_14 ⟨Nat.zero_le _, Nat.zero_le _⟩ (fun H locs hP hD hS => ?_)
    refine lv_istore_n (lv' := [(3, .int v9), (0, .ref (a 3)), (1, .int x1), (2, .int x2)]) hx hb dX6_readNumberedLetter_17 rfl hl (by decide) rfl (fun ls hl => ?_)
    refine lv_aload_n hx hb dX6_readNumberedLetter_18 rfl (lv_at hl 1 rfl) ?_
    refine lv_iconst (v := 2) hx hb dX6_readNumberedLetter_19 (by decide) ?_
    obtain ⟨v10, v11, v12, v13, v14, v15, v16, hc, h⟩ := bd7_use h
    refine cv_i (As := [.int (2 : Int32)]) (rest := []) ⟨hx, hb, hml, hown, hts⟩ (kX6_expect l n dC dI cB cI cJ cZ a adK adV _ ww_latestFault tp_bytes tp_size v2 v3 v4 v5 v6 v7 dr_letterMarks dr_names dr_spelled dr_rows dr_alike dr_near dr_asks dr_letters dr_words dr_askCount sh_lanes sh_sizes sh_cells la_xs la_ys la_heights la_ridgeXs la_ridgeHeights la_way la_blurs la_steps la_places la_ridges la_wayBlur la_wayLength bk_times bk_froms bk_asks bk_words bk_firsts bk_lies bk_held bk_size nu_learned nu_size to_letterMarks to_names to_spelled to_rows to_alike to_near to_asks to_letters to_words to_askCount (2 : Int32) v10 v11 v12 v13 v14 v15 v16 hc) (cwV 1 hts gX6_readNumberedLetter_X6_expect rfl rfl rfl (by decide +kernel) ⟨Nat.le_of_ble_eq_true rfl, Nat.le_of_ble_eq_true rfl⟩) EB_X hE hK hP hD hS hA 3 (ci := 5) rfl rfl rfl rfl hl.1 rfl (Nat.le_of_ble_eq_true rfl) dX6_readNumberedLetter_20 ⟨Nat.zero_le _, Nat.zero_le _⟩ (fun H locs hP hD hS => ?_)
    refine lv_if_ne (tgt := 28) hx hb dX6_readNumberedLetter_23 (by decide) (fun c17 => ?_) (fun c17 => ?_)
    · have h := ie_use c17 h
      refine lv_aload_n hx hb dX6_readNumberedLetter_28 rfl (lv_at hl 1 rfl) ?_
      refine gX_reader_number hx hb hts hnX6 hown hK hP hw1 dX6_readNumberedLetter_29 ?_
      refine lv_iload_n hx hb dX6_readNumberedLetter_32 rfl (lv_at hl 3 rfl) ?_
      refine lv_icmp_lt (tgt := 42) hx hb dX6_readNumberedLetter_33 (by decide) (fun c18 => ?_) (fun c18 => ?_)
      · have h := it_use c18 h
        refine lv_aload_n hx hb dX6_readNumberedLetter_42 rfl (lv_at hl 1 rfl) ?_
        refine gX_reader_draft hx hb hts hnX6 hown hK hP hw2 dX6_readNumberedLetter_43 ?_
        refine lv_iload_n hx hb dX6_readNumberedLetter_46 rfl (lv_at hl 0 rfl) ?_
        refine lv_iload_n hx hb dX6_readNumberedLetter_47 rfl (lv_at hl 2 rfl) ?_
        refine lv_aload_n hx hb dX6_readNumberedLetter_48 rfl (lv_at hl 1 rfl) ?_
        refine gX_reader_number hx hb hts hnX6 hown hK hP hw1 dX6_readNumberedLetter_49 ?_
        refine lv_iadd hx hb dX6_readNumberedLetter_52 ?_
        obtain ⟨f19, v20, hc, h⟩ := bd2_use h
        refine cv_v (As := [.int v9, .int (x1 + v16)]) (rest := []) ⟨hx, hb, hml, hown, hts⟩ (kX7_tellLetter_D l n dC dI cB cI cJ cZ a adK adV _ ww_latestFault tp_bytes tp_size v11 v12 v13 v14 v15 v16 dr_letterMarks dr_names dr_spelled dr_rows dr_alike dr_near dr_asks dr_letters dr_words dr_askCount sh_lanes sh_sizes sh_cells la_xs la_ys la_heights la_ridgeXs la_ridgeHeights la_way la_blurs la_steps la_places la_ridges la_wayBlur la_wayLength bk_times bk_froms bk_asks bk_words bk_firsts bk_lies bk_held bk_size nu_learned nu_size to_letterMarks to_names to_spelled to_rows to_alike to_near to_asks to_letters to_words to_askCount v9 (x1 + v16) f19 v20 hc) (cwV 2 hts gX6_readNumberedLetter_X7_tellLetter rfl rfl rfl (by decide +kernel) ⟨Nat.le_of_ble_eq_true rfl, Nat.le_of_ble_eq_true rfl⟩) EB_X hE hK hP hD hS hA 4 (ci := 6) rfl rfl rfl rfl hl.1 rfl (Nat.le_of_ble_eq_true rfl) dX6_readNumberedLetter_53 ⟨Nat.zero_le _, Nat.zero_le _⟩ (fun H locs hP hD hS => ?_)
        refine lv_aload_n hx hb dX6_readNumberedLetter_56 rfl (lv_at hl 1 rfl) ?_
        refine lv_iconst (v := 3) hx hb dX6_readNumberedLetter_57 (by decide) ?_
        obtain ⟨v21, v22, v23, v24, v25, v26, v27, hc, h⟩ := bd7_use h
        refine cv_i (As := [.int (3 : Int32)]) (rest := []) ⟨hx, hb, hml, hown, hts⟩ (kX6_expect l n dC dI cB cI cJ cZ a adK adV _ ww_latestFault tp_bytes tp_size v11 v12 v13 v14 v15 v16 f19 dr_names dr_spelled dr_rows dr_alike dr_near dr_asks v20 dr_words dr_askCount sh_lanes sh_sizes sh_cells la_xs la_ys la_heights la_ridgeXs la_ridgeHeights la_way la_blurs la_steps la_places la_ridges la_wayBlur la_wayLength bk_times bk_froms bk_asks bk_words bk_firsts bk_lies bk_held bk_size nu_learned nu_size to_letterMarks to_names to_spelled to_rows to_alike to_near to_asks to_letters to_words to_askCount (3 : Int32) v21 v22 v23 v24 v25 v26 v27 hc) (cwV 1 hts gX6_readNumberedLetter_X6_expect rfl rfl rfl (by decide +kernel) ⟨Nat.le_of_ble_eq_true rfl, Nat.le_of_ble_eq_true rfl⟩) EB_X hE hK hP hD hS hA 3 (ci := 5) rfl rfl rfl rfl hl.1 rfl (Nat.le_of_ble_eq_true rfl) dX6_readNumberedLetter_58 ⟨Nat.zero_le _, Nat.zero_le _⟩ (fun H locs hP hD hS => ?_)
        obtain ⟨hzb, h⟩ := rb_use h
        obtain ⟨er, ez0, ez1, ez2, ez3, ez4, ez5, ez6, ez7⟩ := rt9_use h
        subst ez0
        subst ez1
        subst ez2
        subst ez3
        subst ez4
        subst ez5
        subst ez6
        subst ez7
        exact re_z hx hb hr hlocks hK hP hD hS hzb er dX6_readNumberedLetter_61
      · have h := ie_use c18 h
        refine lv_aload_n hx hb dX6_readNumberedLetter_36 rfl (lv_at hl 1 rfl) ?_
        refine lv_iconst (v := 3) hx hb dX6_readNumberedLetter_37 (by decide) ?_
        obtain ⟨v28, v29, v30, hc, h⟩ := bd3_use h
        refine cv_i (As := [.int (3 : Int32)]) (rest := []) ⟨hx, hb, hml, hown, hts⟩ (kX6_refuse l n dC dI cB cI cJ cZ a adK adV _ ww_latestFault tp_bytes tp_size v11 v12 v13 v14 v15 v16 dr_letterMarks dr_names dr_spelled dr_rows dr_alike dr_near dr_asks dr_letters dr_words dr_askCount sh_lanes sh_sizes sh_cells la_xs la_ys la_heights la_ridgeXs la_ridgeHeights la_way la_blurs la_steps la_places la_ridges la_wayBlur la_wayLength bk_times bk_froms bk_asks bk_words bk_firsts bk_lies bk_held bk_size nu_learned nu_size to_letterMarks to_names to_spelled to_rows to_alike to_near to_asks to_letters to_words to_askCount (3 : Int32) v28 v29 v30 hc) (cwV 1 hts gX6_readNumberedLetter_X6_refuse rfl rfl rfl (by decide +kernel) ⟨Nat.le_of_ble_eq_true rfl, Nat.le_of_ble_eq_true rfl⟩) EB_X hE hK hP hD hS hA 3 (ci := 5) rfl rfl rfl rfl hl.1 rfl (Nat.le_of_ble_eq_true rfl) dX6_readNumberedLetter_38 ⟨Nat.zero_le _, Nat.zero_le _⟩ (fun H locs hP hD hS => ?_)
        obtain ⟨hzb, h⟩ := rb_use h
        obtain ⟨er, ez0, ez1, ez2, ez3, ez4, ez5, ez6, ez7⟩ := rt9_use h
        subst ez0
        subst ez1
        subst ez2
        subst ez3
        subst ez4
        subst ez5
        subst ez6
        subst ez7
        exact re_z hx hb hr hlocks hK hP hD hS hzb er dX6_readNumberedLetter_41
    · have h := it_use c17 h
      refine lv_iconst (v := 0) hx hb dX6_readNumberedLetter_26 (by decide) ?_
      obtain ⟨er, ez0, ez1, ez2, ez3, ez4, ez5, ez6, ez7⟩ := rt9_use h
      subst ez0
      subst ez1
      subst ez2
      subst ez3
      subst ez4
      subst ez5
      subst ez6
      subst ez7
      exact re_z hx hb hr hlocks hK hP hD hS (Or.inl rfl) er dX6_readNumberedLetter_27
  · have h := it_use c8 h
    refine lv_iconst (v := 0) hx hb dX6_readNumberedLetter_7 (by decide) ?_
    obtain ⟨er, ez0, ez1, ez2, ez3, ez4, ez5, ez6, ez7⟩ := rt9_use h
    subst ez0
    subst ez1
    subst ez2
    subst ez3
    subst ez4
    subst ez5
    subst ez6
    subst ez7
    exact re_z hx hb hr hlocks hK hP hD hS (Or.inl rfl) er dX6_readNumberedLetter_8
set_option maxHeartbeats 4000000 in
set_option maxRecDepth 100000 in
theorem kX6_spells_1_p20_r {p : Program} {l : Launch} {e : Env} {s : State} {m : MethodId} {args : Array Value} {below : List Frame} {meth : Method} {c : Code} {A : Nat → Prop} (dC : Nat → ClassId) (dI : Nat → Nat → Nat) (cB cI cJ cZ : ClassId) (a : Nat → Nat) (adK adV : Nat → Nat) (C0 : cxt cX6_spells (some .boolean) 3 RX6 wsX6_spells (dC, dI) (tyz cB cI cJ cZ) (E_X adK adV) A p s m args meth c) (n : Nat) (ww_latestFault : Int32) (tp_bytes : Nat → Int32) (tp_size : Int32) (rd_fault : Int32) (rd_faultPlace : Int32) (rd_kind : Int32) (rd_start : Int32) (rd_at : Int32) (rd_number : Int32) (dr_letterMarks : Nat → Int32) (dr_names : Nat → Int64) (dr_spelled : Nat → Int32) (dr_rows : Nat → Int64) (dr_alike : Nat → Int32) (dr_near : Nat → Int32) (dr_asks : Nat → Int32) (dr_letters : Int32) (dr_words : Int32) (dr_askCount : Int32) (sh_lanes : Nat → Int32) (sh_sizes : Nat → Int32) (sh_cells : Nat → Int32) (la_xs : Nat → Int32) (la_ys : Nat → Int32) (la_heights : Nat → Int32) (la_ridgeXs : Nat → Int32) (la_ridgeHeights : Nat → Int32) (la_way : Nat → Int32) (la_blurs : Nat → Int32) (la_steps : Nat → Int32) (la_places : Int32) (la_ridges : Int32) (la_wayBlur : Int32) (la_wayLength : Int32) (bk_times : Nat → Int32) (bk_froms : Nat → Int32) (bk_asks : Nat → Int32) (bk_words : Nat → Int32) (bk_firsts : Nat → Int32) (bk_lies : Nat → Int32) (bk_held : Nat → Int32) (bk_size : Int32) (nu_learned : Nat → Int32) (nu_size : Int32) (to_letterMarks : Nat → Int32) (to_names : Nat → Int64) (to_spelled : Nat → Int32) (to_rows : Nat → Int64) (to_alike : Nat → Int32) (to_near : Nat → Int32) (to_asks : Nat → Int32) (to_letters : Int32) (to_words : Int32) (to_askCount : Int32)  (r0 : Int32)  : ∀ (k : Nat) (x2 : Int32) (H : Heap) (locs : List Loc) (ls : Array Slot), fX6_spells_p20 n tp_bytes rd_start (lenS 1) (chS 1) k x2 = some r0 → va_P (dC, dI) vwCl (wX cB cI cJ cZ a (a 35) (a 4) ww_latestFault tp_bytes tp_size rd_fault rd_faultPlace rd_kind rd_start rd_at rd_number dr_letterMarks dr_names dr_spelled dr_rows dr_alike dr_near dr_asks dr_letters dr_words dr_askCount sh_lanes sh_sizes sh_cells la_xs la_ys la_heights la_ridgeXs la_ridgeHeights la_way la_blurs la_steps la_places la_ridges la_wayBlur la_wayLength bk_times bk_froms bk_asks bk_words bk_firsts bk_lies bk_held bk_size nu_learned nu_size to_letterMarks to_names to_spelled to_rows to_alike to_near to_asks to_letters to_words to_askCount) H → va_D A (wX cB cI cJ cZ a (a 35) (a 4) ww_latestFault tp_bytes tp_size rd_fault rd_faultPlace rd_kind rd_start rd_at rd_number dr_letterMarks dr_names dr_spelled dr_rows dr_alike dr_near dr_asks dr_letters dr_words dr_askCount sh_lanes sh_sizes sh_cells la_xs la_ys la_heights la_ridgeXs la_ridgeHeights la_way la_blurs la_steps la_places la_ridges la_wayBlur la_wayLength bk_times bk_froms bk_asks bk_words bk_firsts bk_lies bk_held bk_size nu_learned nu_size to_letterMarks to_names to_spelled to_rows to_alike to_near to_asks to_letters to_words to_askCount) → va_S A s.heap H locs → lv_has ls 3 [(0, .ref (a 3)), (1, .ref (adK 1)), (2, .int x2)] → W p l e { frames := 4, cells := 0, slots := 0, locals := 85 } s m args below meth c H locs 0 0 (MQ below (gI (dC, dI) (tyz cB cI cJ cZ) (wX cB cI cJ cZ a (a 35) (a 4) ww_latestFault tp_bytes tp_size rd_fault rd_faultPlace rd_kind rd_start rd_at rd_number dr_letterMarks dr_names dr_spelled dr_rows dr_alike dr_near dr_asks dr_letters dr_words dr_askCount sh_lanes sh_sizes sh_cells la_xs la_ys la_heights la_ridgeXs la_ridgeHeights la_way la_blurs la_steps la_places la_ridges la_wayBlur la_wayLength bk_times bk_froms bk_asks bk_words bk_firsts bk_lies bk_held bk_size nu_learned nu_size to_letterMarks to_names to_spelled to_rows to_alike to_near to_asks to_letters to_words to_askCount) A r0) args s 0 0 A) (F0 m 20 ls []) := by
  obtain ⟨hx, hb, hr, hml, hown, hts, hlocks, hK, hA, hE⟩ := id C0
  have hw0 := hts (.fieldLink RX6 9 "WhistledWords$TextReader" "tape" "LWhistledWords$Tape;") (by decide +kernel)
  have hw1 := hts (.fieldLink RX6 146 "WhistledWords$Tape" "bytes" "[B") (by decide +kernel)
  have hw2 := hts (.fieldLink RX6 51 "WhistledWords$TextReader" "start" "I") (by decide +kernel)
  have hnX6 : ∀ w ∈ u_ws RX6 TX6 8, w ∈ wsX6_spells := fun _ h => List.mem_cons_of_mem _ (List.mem_append_left _ (List.mem_append_right _ h))
  have hnX5 : ∀ w ∈ u_ws RX5 TX5 2, w ∈ wsX6_spells := fun _ h => List.mem_cons_of_mem _ (List.mem_append_right _ h)
  intro k
  induction k with
  | zero =>
    intro x2 H locs ls h
    cases h
  | succ k ih =>
    intro x2 H locs ls h hP hD hS hl
    rw [fX6_spells_p20] at h
    refine lv_iload_n hx hb dX6_spells_20 rfl (lv_at hl 2 rfl) ?_
    refine lv_aload_n hx hb dX6_spells_21 rfl (lv_at hl 1 rfl) ?_
    refine cS_len (k := 1) (rest := [.int x2]) (by decide) ⟨hx, hb, hml, hown, hts⟩ (cwV 0 hts gX6_spells_J0_length_8abf5 rfl rfl rfl (by decide +kernel) ⟨Nat.le_of_ble_eq_true rfl, Nat.le_of_ble_eq_true rfl⟩) hE.2.1 hP hS hl.1 rfl (Nat.le_of_ble_eq_true rfl) dX6_spells_22 ⟨Nat.zero_le _, Nat.zero_le _⟩ (fun H locs hP hS => ?_)
    refine lv_icmp_ge (tgt := 58) hx hb dX6_spells_25 (by decide) (fun c1 => ?_) (fun c1 => ?_)
    · have h := it_use c1 h
      refine lv_iconst (v := 1) hx hb dX6_spells_58 (by decide) ?_
      obtain er := rt1_use h
      exact re_z hx hb hr hlocks hK hP hD hS (Or.inr rfl) er dX6_spells_59
    · have h := ie_use c1 h
      refine lv_aload_n hx hb dX6_spells_28 rfl (lv_at hl 0 rfl) ?_
      refine gX_reader_tape hx hb hts hnX6 hown hK hP hw0 dX6_spells_29 ?_
      refine gX_tape_bytes hx hb hts hnX5 hown hK hP hw1 dX6_spells_32 ?_
      refine lv_aload_n hx hb dX6_spells_35 rfl (lv_at hl 0 rfl) ?_
      refine gX_reader_start hx hb hts hnX6 hown hK hP hw2 dX6_spells_36 ?_
      refine lv_iload_n hx hb dX6_spells_39 rfl (lv_at hl 2 rfl) ?_
      refine lv_iadd hx hb dX6_spells_40 ?_
      obtain ⟨hiv2, h⟩ := ar_use h
      refine lX_tape_bytes hx hb hK hP hiv2 dX6_spells_41 ?_
      refine lv_topi (fun v2 ev2 => ?_)
      have h := h v2 ev2
      refine lv_aload_n hx hb dX6_spells_42 rfl (lv_at hl 1 rfl) ?_
      refine lv_iload_n hx hb dX6_spells_43 rfl (lv_at hl 2 rfl) ?_
      obtain ⟨hiv3, h⟩ := ar_use h
      refine cS_chr (k := 1) (rest := [.int v2]) (by decide) ⟨hx, hb, hml, hown, hts⟩ hiv3 (cwV 1 hts gX6_spells_J0_charAt_5068e rfl rfl rfl (by decide +kernel) ⟨Nat.le_of_ble_eq_true rfl, Nat.le_of_ble_eq_true rfl⟩) hE.2.1 hP hS hl.1 rfl (Nat.le_of_ble_eq_true rfl) dX6_spells_44 ⟨Nat.zero_le _, Nat.zero_le _⟩ (fun H locs hP hS => ?_)
      refine lv_topi (fun v3 ev3 => ?_)
      have h := h v3 ev3
      refine lv_icmp_eq (tgt := 52) hx hb dX6_spells_47 (by decide) (fun c4 => ?_) (fun c4 => ?_)
      · have h := it_use c4 h
        refine lv_iinc (v := x2 + 1) (lv' := [(2, .int (x2 + 1)), (0, .ref (a 3)), (1, .ref (adK 1))]) hx hb dX6_spells_52 hl (k := 2) rfl rfl (by decide) rfl (fun ls hl => ?_)
        refine lv_goto (tgt := 20) hx hb dX6_spells_55 (by decide) ?_
        exact ih (x2 + 1) _ _ ls h hP hD hS (lv_sub hl [1, 2, 0] rfl)
      · have h := ie_use c4 h
        refine lv_iconst (v := 0) hx hb dX6_spells_50 (by decide) ?_
        obtain er := rt1_use h
        exact re_z hx hb hr hlocks hK hP hD hS (Or.inl rfl) er dX6_spells_51
theorem kX6_spells_1_p20 {p : Program} {l : Launch} {e : Env} {s : State} {m : MethodId} {args : Array Value} {below : List Frame} {meth : Method} {c : Code} {A : Nat → Prop} (dC : Nat → ClassId) (dI : Nat → Nat → Nat) (cB cI cJ cZ : ClassId) (a : Nat → Nat) (adK adV : Nat → Nat) (C0 : cxt cX6_spells (some .boolean) 3 RX6 wsX6_spells (dC, dI) (tyz cB cI cJ cZ) (E_X adK adV) A p s m args meth c) (n : Nat) (ww_latestFault : Int32) (tp_bytes : Nat → Int32) (tp_size : Int32) (rd_fault : Int32) (rd_faultPlace : Int32) (rd_kind : Int32) (rd_start : Int32) (rd_at : Int32) (rd_number : Int32) (dr_letterMarks : Nat → Int32) (dr_names : Nat → Int64) (dr_spelled : Nat → Int32) (dr_rows : Nat → Int64) (dr_alike : Nat → Int32) (dr_near : Nat → Int32) (dr_asks : Nat → Int32) (dr_letters : Int32) (dr_words : Int32) (dr_askCount : Int32) (sh_lanes : Nat → Int32) (sh_sizes : Nat → Int32) (sh_cells : Nat → Int32) (la_xs : Nat → Int32) (la_ys : Nat → Int32) (la_heights : Nat → Int32) (la_ridgeXs : Nat → Int32) (la_ridgeHeights : Nat → Int32) (la_way : Nat → Int32) (la_blurs : Nat → Int32) (la_steps : Nat → Int32) (la_places : Int32) (la_ridges : Int32) (la_wayBlur : Int32) (la_wayLength : Int32) (bk_times : Nat → Int32) (bk_froms : Nat → Int32) (bk_asks : Nat → Int32) (bk_words : Nat → Int32) (bk_firsts : Nat → Int32) (bk_lies : Nat → Int32) (bk_held : Nat → Int32) (bk_size : Int32) (nu_learned : Nat → Int32) (nu_size : Int32) (to_letterMarks : Nat → Int32) (to_names : Nat → Int64) (to_spelled : Nat → Int32) (to_rows : Nat → Int64) (to_alike : Nat → Int32) (to_near : Nat → Int32) (to_asks : Nat → Int32) (to_letters : Int32) (to_words : Int32) (to_askCount : Int32)  (x2 : Int32) (r0 : Int32)  (k : Nat) (H : Heap) (locs : List Loc) (ls : Array Slot) : fX6_spells_p20 n tp_bytes rd_start (lenS 1) (chS 1) k x2 = some r0 → va_P (dC, dI) vwCl (wX cB cI cJ cZ a (a 35) (a 4) ww_latestFault tp_bytes tp_size rd_fault rd_faultPlace rd_kind rd_start rd_at rd_number dr_letterMarks dr_names dr_spelled dr_rows dr_alike dr_near dr_asks dr_letters dr_words dr_askCount sh_lanes sh_sizes sh_cells la_xs la_ys la_heights la_ridgeXs la_ridgeHeights la_way la_blurs la_steps la_places la_ridges la_wayBlur la_wayLength bk_times bk_froms bk_asks bk_words bk_firsts bk_lies bk_held bk_size nu_learned nu_size to_letterMarks to_names to_spelled to_rows to_alike to_near to_asks to_letters to_words to_askCount) H → va_D A (wX cB cI cJ cZ a (a 35) (a 4) ww_latestFault tp_bytes tp_size rd_fault rd_faultPlace rd_kind rd_start rd_at rd_number dr_letterMarks dr_names dr_spelled dr_rows dr_alike dr_near dr_asks dr_letters dr_words dr_askCount sh_lanes sh_sizes sh_cells la_xs la_ys la_heights la_ridgeXs la_ridgeHeights la_way la_blurs la_steps la_places la_ridges la_wayBlur la_wayLength bk_times bk_froms bk_asks bk_words bk_firsts bk_lies bk_held bk_size nu_learned nu_size to_letterMarks to_names to_spelled to_rows to_alike to_near to_asks to_letters to_words to_askCount) → va_S A s.heap H locs → lv_has ls 3 [(0, .ref (a 3)), (1, .ref (adK 1)), (2, .int x2)] → W p l e { frames := 4, cells := 0, slots := 0, locals := 85 } s m args below meth c H locs 0 0 (MQ below (gI (dC, dI) (tyz cB cI cJ cZ) (wX cB cI cJ cZ a (a 35) (a 4) ww_latestFault tp_bytes tp_size rd_fault rd_faultPlace rd_kind rd_start rd_at rd_number dr_letterMarks dr_names dr_spelled dr_rows dr_alike dr_near dr_asks dr_letters dr_words dr_askCount sh_lanes sh_sizes sh_cells la_xs la_ys la_heights la_ridgeXs la_ridgeHeights la_way la_blurs la_steps la_places la_ridges la_wayBlur la_wayLength bk_times bk_froms bk_asks bk_words bk_firsts bk_lies bk_held bk_size nu_learned nu_size to_letterMarks to_names to_spelled to_rows to_alike to_near to_asks to_letters to_words to_askCount) A r0) args s 0 0 A) (F0 m 20 ls []) :=
  kX6_spells_1_p20_r dC dI cB cI cJ cZ a adK adV C0 n ww_latestFault tp_bytes tp_size rd_fault rd_faultPlace rd_kind rd_start rd_at rd_number dr_letterMarks dr_names dr_spelled dr_rows dr_alike dr_near dr_asks dr_letters dr_words dr_askCount sh_lanes sh_sizes sh_cells la_xs la_ys la_heights la_ridgeXs la_ridgeHeights la_way la_blurs la_steps la_places la_ridges la_wayBlur la_wayLength bk_times bk_froms bk_asks bk_words bk_firsts bk_lies bk_held bk_size nu_learned nu_size to_letterMarks to_names to_spelled to_rows to_alike to_near to_asks to_letters to_words to_askCount  r0  k x2 H locs ls
set_option maxHeartbeats 4000000 in
set_option maxRecDepth 100000 in
theorem kX6_spells_1 (l : Launch) (n : Nat) (dC : Nat → ClassId) (dI : Nat → Nat → Nat) (cB cI cJ cZ : ClassId) (a : Nat → Nat) (adK adV : Nat → Nat) (sz : Nat) (ww_latestFault : Int32) (tp_bytes : Nat → Int32) (tp_size : Int32) (rd_fault : Int32) (rd_faultPlace : Int32) (rd_kind : Int32) (rd_start : Int32) (rd_at : Int32) (rd_number : Int32) (dr_letterMarks : Nat → Int32) (dr_names : Nat → Int64) (dr_spelled : Nat → Int32) (dr_rows : Nat → Int64) (dr_alike : Nat → Int32) (dr_near : Nat → Int32) (dr_asks : Nat → Int32) (dr_letters : Int32) (dr_words : Int32) (dr_askCount : Int32) (sh_lanes : Nat → Int32) (sh_sizes : Nat → Int32) (sh_cells : Nat → Int32) (la_xs : Nat → Int32) (la_ys : Nat → Int32) (la_heights : Nat → Int32) (la_ridgeXs : Nat → Int32) (la_ridgeHeights : Nat → Int32) (la_way : Nat → Int32) (la_blurs : Nat → Int32) (la_steps : Nat → Int32) (la_places : Int32) (la_ridges : Int32) (la_wayBlur : Int32) (la_wayLength : Int32) (bk_times : Nat → Int32) (bk_froms : Nat → Int32) (bk_asks : Nat → Int32) (bk_words : Nat → Int32) (bk_firsts : Nat → Int32) (bk_lies : Nat → Int32) (bk_held : Nat → Int32) (bk_size : Int32) (nu_learned : Nat → Int32) (nu_size : Int32) (to_letterMarks : Nat → Int32) (to_names : Nat → Int64) (to_spelled : Nat → Int32) (to_rows : Nat → Int64) (to_alike : Nat → Int32) (to_near : Nat → Int32) (to_asks : Nat → Int32) (to_letters : Int32) (to_words : Int32) (to_askCount : Int32)  (r0 : Int32) (h : fX6_spells n tp_bytes rd_start rd_at  (lenS 1) (chS 1) = some r0) : Met l yX6_spells wsX6_spells ({ frames := 4, cells := 0, slots := 0, locals := 85 }) (gP (dC, dI) (tyz cB cI cJ cZ) (E_X adK adV) (wX cB cI cJ cZ a (a 35) (a 4) ww_latestFault tp_bytes tp_size rd_fault rd_faultPlace rd_kind rd_start rd_at rd_number dr_letterMarks dr_names dr_spelled dr_rows dr_alike dr_near dr_asks dr_letters dr_words dr_askCount sh_lanes sh_sizes sh_cells la_xs la_ys la_heights la_ridgeXs la_ridgeHeights la_way la_blurs la_steps la_places la_ridges la_wayBlur la_wayLength bk_times bk_froms bk_asks bk_words bk_firsts bk_lies bk_held bk_size nu_learned nu_size to_letterMarks to_names to_spelled to_rows to_alike to_near to_asks to_letters to_words to_askCount) sz [.ref (a 3), .ref (adK 1)]) (gI (dC, dI) (tyz cB cI cJ cZ) (wX cB cI cJ cZ a (a 35) (a 4) ww_latestFault tp_bytes tp_size rd_fault rd_faultPlace rd_kind rd_start rd_at rd_number dr_letterMarks dr_names dr_spelled dr_rows dr_alike dr_near dr_asks dr_letters dr_words dr_askCount sh_lanes sh_sizes sh_cells la_xs la_ys la_heights la_ridgeXs la_ridgeHeights la_way la_blurs la_steps la_places la_ridges la_wayBlur la_wayLength bk_times bk_froms bk_asks bk_words bk_firsts bk_lies bk_held bk_size nu_learned nu_size to_letterMarks to_names to_spelled to_rows to_alike to_near to_asks to_letters to_words to_askCount) (va_A (wX cB cI cJ cZ a (a 35) (a 4) ww_latestFault tp_bytes tp_size rd_fault rd_faultPlace rd_kind rd_start rd_at rd_number dr_letterMarks dr_names dr_spelled dr_rows dr_alike dr_near dr_asks dr_letters dr_words dr_askCount sh_lanes sh_sizes sh_cells la_xs la_ys la_heights la_ridgeXs la_ridgeHeights la_way la_blurs la_steps la_places la_ridges la_wayBlur la_wayLength bk_times bk_froms bk_asks bk_words bk_firsts bk_lies bk_held bk_size nu_learned nu_size to_letterMarks to_names to_spelled to_rows to_alike to_near to_asks to_letters to_words to_askCount) sz) r0) 0 0 (va_A (wX cB cI cJ cZ a (a 35) (a 4) ww_latestFault tp_bytes tp_size rd_fault rd_faultPlace rd_kind rd_start rd_at rd_number dr_letterMarks dr_names dr_spelled dr_rows dr_alike dr_near dr_asks dr_letters dr_words dr_askCount sh_lanes sh_sizes sh_cells la_xs la_ys la_heights la_ridgeXs la_ridgeHeights la_way la_blurs la_steps la_places la_ridges la_wayBlur la_wayLength bk_times bk_froms bk_asks bk_words bk_firsts bk_lies bk_held bk_size nu_learned nu_size to_letterMarks to_names to_spelled to_rows to_alike to_near to_asks to_letters to_words to_askCount) sz) := by
  refine Met.ofW (cc := cX6_spells) (maxL := 3) (ret := (some .boolean)) (by decide) rfl ?_
  intro p e s m args below meth c s₁ B hml hv
  obtain ⟨rfl, hsz, hP, hK, hD0, hE⟩ := hv
  have hx := B.exec
  have hb := B.bytes
  have hr := B.returns
  have hts := atoms_spec (ws := wsX6_spells) B.pre
  have hown : s.vm.findClass RX6 = some m.cls := findClass_of_methodNamed B.named
  have hlocks := B.notSynchronized
  subst hsz
  have hD := hD0.self (sz := s.heap.size)
  have hA : ∀ q : Nat, s.heap.size ≤ q → va_A (wX cB cI cJ cZ a (a 35) (a 4) ww_latestFault tp_bytes tp_size rd_fault rd_faultPlace rd_kind rd_start rd_at rd_number dr_letterMarks dr_names dr_spelled dr_rows dr_alike dr_near dr_asks dr_letters dr_words dr_askCount sh_lanes sh_sizes sh_cells la_xs la_ys la_heights la_ridgeXs la_ridgeHeights la_way la_blurs la_steps la_places la_ridges la_wayBlur la_wayLength bk_times bk_froms bk_asks bk_words bk_firsts bk_lies bk_held bk_size nu_learned nu_size to_letterMarks to_names to_spelled to_rows to_alike to_near to_asks to_letters to_words to_askCount) s.heap.size q := fun q h => Or.inr h
  generalize va_A (wX cB cI cJ cZ a (a 35) (a 4) ww_latestFault tp_bytes tp_size rd_fault rd_faultPlace rd_kind rd_start rd_at rd_number dr_letterMarks dr_names dr_spelled dr_rows dr_alike dr_near dr_asks dr_letters dr_words dr_askCount sh_lanes sh_sizes sh_cells la_xs la_ys la_heights la_ridgeXs la_ridgeHeights la_way la_blurs la_steps la_places la_ridges la_wayBlur la_wayLength bk_times bk_froms bk_asks bk_words bk_firsts bk_lies bk_held bk_size nu_learned nu_size to_letterMarks to_names to_spelled to_rows to_alike to_near to_asks to_letters to_words to_askCount) s.heap.size = A at hD hA hE ⊢
  have hS : va_S A s.heap s.heap [] := va_S.rf
  have C0 : cxt cX6_spells (some .boolean) 3 RX6 wsX6_spells (dC, dI) (tyz cB cI cJ cZ) (E_X adK adV) A p s m ([.ref (a 3), .ref (adK 1)] : List Value).toArray meth c := ⟨hx, hb, hr, hml, hown, hts, hlocks, hK, hA, hE⟩
  have hl := lv_entry ([.ref (a 3), .ref (adK 1)]) (n := 3) (Nat.le_of_ble_eq_true rfl)
  rw [lg_entry_eq]
  generalize (lg_sl ([.ref (a 3), .ref (adK 1)]) ++ List.replicate (3 - (lg_sl ([.ref (a 3), .ref (adK 1)])).length) Slot.unset).toArray = ls at hl ⊢
  have hl : lv_has ls 3 [(0, .ref (a 3)), (1, .ref (adK 1))] := hl
  have hw0 := hts (.fieldLink RX6 32 "WhistledWords$TextReader" "at" "I") (by decide +kernel)
  have hw1 := hts (.fieldLink RX6 51 "WhistledWords$TextReader" "start" "I") (by decide +kernel)
  have hnX6 : ∀ w ∈ u_ws RX6 TX6 8, w ∈ wsX6_spells := fun _ h => List.mem_cons_of_mem _ (List.mem_append_left _ (List.mem_append_right _ h))
  unfold fX6_spells at h
  refine lv_aload_n hx hb dX6_spells_0 rfl (lv_at hl 0 rfl) ?_
  refine gX_reader_at hx hb hts hnX6 hown hK hP hw0 dX6_spells_1 ?_
  refine lv_aload_n hx hb dX6_spells_4 rfl (lv_at hl 0 rfl) ?_
  refine gX_reader_start hx hb hts hnX6 hown hK hP hw1 dX6_spells_5 ?_
  refine lv_isub hx hb dX6_spells_8 ?_
  refine lv_aload_n hx hb dX6_spells_9 rfl (lv_at hl 1 rfl) ?_
  refine cS_len (k := 1) (rest := [.int (rd_at - rd_start)]) (by decide) ⟨hx, hb, hml, hown, hts⟩ (cwV 0 hts gX6_spells_J0_length_8abf5 rfl rfl rfl (by decide +kernel) ⟨Nat.le_of_ble_eq_true rfl, Nat.le_of_ble_eq_true rfl⟩) hE.2.1 hP hS hl.1 rfl (Nat.le_of_ble_eq_true rfl) dX6_spells_10 ⟨Nat.zero_le _, Nat.zero_le _⟩ (fun H locs hP hS => ?_)
  refine lv_icmp_eq (tgt := 18) hx hb dX6_spells_13 (by decide) (fun c1 => ?_) (fun c1 => ?_)
  · have h := it_use c1 h
    refine lv_iconst (v := 0) hx hb dX6_spells_18 (by decide) ?_
    refine lv_istore_n (lv' := [(2, .int (0 : Int32)), (0, .ref (a 3)), (1, .ref (adK 1))]) hx hb dX6_spells_19 rfl hl (by decide) rfl (fun ls hl => ?_)
    exact kX6_spells_1_p20 dC dI cB cI cJ cZ a adK adV C0 n ww_latestFault tp_bytes tp_size rd_fault rd_faultPlace rd_kind rd_start rd_at rd_number dr_letterMarks dr_names dr_spelled dr_rows dr_alike dr_near dr_asks dr_letters dr_words dr_askCount sh_lanes sh_sizes sh_cells la_xs la_ys la_heights la_ridgeXs la_ridgeHeights la_way la_blurs la_steps la_places la_ridges la_wayBlur la_wayLength bk_times bk_froms bk_asks bk_words bk_firsts bk_lies bk_held bk_size nu_learned nu_size to_letterMarks to_names to_spelled to_rows to_alike to_near to_asks to_letters to_words to_askCount (0 : Int32) r0  n _ _ ls h hP hD hS (lv_sub hl [1, 2, 0] rfl)
  · have h := ie_use c1 h
    refine lv_iconst (v := 0) hx hb dX6_spells_16 (by decide) ?_
    obtain er := rt1_use h
    exact re_z hx hb hr hlocks hK hP hD hS (Or.inl rfl) er dX6_spells_17
set_option maxHeartbeats 4000000 in
set_option maxRecDepth 100000 in
theorem kX6_spells_2_p20_r {p : Program} {l : Launch} {e : Env} {s : State} {m : MethodId} {args : Array Value} {below : List Frame} {meth : Method} {c : Code} {A : Nat → Prop} (dC : Nat → ClassId) (dI : Nat → Nat → Nat) (cB cI cJ cZ : ClassId) (a : Nat → Nat) (adK adV : Nat → Nat) (C0 : cxt cX6_spells (some .boolean) 3 RX6 wsX6_spells (dC, dI) (tyz cB cI cJ cZ) (E_X adK adV) A p s m args meth c) (n : Nat) (ww_latestFault : Int32) (tp_bytes : Nat → Int32) (tp_size : Int32) (rd_fault : Int32) (rd_faultPlace : Int32) (rd_kind : Int32) (rd_start : Int32) (rd_at : Int32) (rd_number : Int32) (dr_letterMarks : Nat → Int32) (dr_names : Nat → Int64) (dr_spelled : Nat → Int32) (dr_rows : Nat → Int64) (dr_alike : Nat → Int32) (dr_near : Nat → Int32) (dr_asks : Nat → Int32) (dr_letters : Int32) (dr_words : Int32) (dr_askCount : Int32) (sh_lanes : Nat → Int32) (sh_sizes : Nat → Int32) (sh_cells : Nat → Int32) (la_xs : Nat → Int32) (la_ys : Nat → Int32) (la_heights : Nat → Int32) (la_ridgeXs : Nat → Int32) (la_ridgeHeights : Nat → Int32) (la_way : Nat → Int32) (la_blurs : Nat → Int32) (la_steps : Nat → Int32) (la_places : Int32) (la_ridges : Int32) (la_wayBlur : Int32) (la_wayLength : Int32) (bk_times : Nat → Int32) (bk_froms : Nat → Int32) (bk_asks : Nat → Int32) (bk_words : Nat → Int32) (bk_firsts : Nat → Int32) (bk_lies : Nat → Int32) (bk_held : Nat → Int32) (bk_size : Int32) (nu_learned : Nat → Int32) (nu_size : Int32) (to_letterMarks : Nat → Int32) (to_names : Nat → Int64) (to_spelled : Nat → Int32) (to_rows : Nat → Int64) (to_alike : Nat → Int32) (to_near : Nat → Int32) (to_asks : Nat → Int32) (to_letters : Int32) (to_words : Int32) (to_askCount : Int32)  (r0 : Int32)  : ∀ (k : Nat) (x2 : Int32) (H : Heap) (locs : List Loc) (ls : Array Slot), fX6_spells_p20 n tp_bytes rd_start (lenS 2) (chS 2) k x2 = some r0 → va_P (dC, dI) vwCl (wX cB cI cJ cZ a (a 35) (a 4) ww_latestFault tp_bytes tp_size rd_fault rd_faultPlace rd_kind rd_start rd_at rd_number dr_letterMarks dr_names dr_spelled dr_rows dr_alike dr_near dr_asks dr_letters dr_words dr_askCount sh_lanes sh_sizes sh_cells la_xs la_ys la_heights la_ridgeXs la_ridgeHeights la_way la_blurs la_steps la_places la_ridges la_wayBlur la_wayLength bk_times bk_froms bk_asks bk_words bk_firsts bk_lies bk_held bk_size nu_learned nu_size to_letterMarks to_names to_spelled to_rows to_alike to_near to_asks to_letters to_words to_askCount) H → va_D A (wX cB cI cJ cZ a (a 35) (a 4) ww_latestFault tp_bytes tp_size rd_fault rd_faultPlace rd_kind rd_start rd_at rd_number dr_letterMarks dr_names dr_spelled dr_rows dr_alike dr_near dr_asks dr_letters dr_words dr_askCount sh_lanes sh_sizes sh_cells la_xs la_ys la_heights la_ridgeXs la_ridgeHeights la_way la_blurs la_steps la_places la_ridges la_wayBlur la_wayLength bk_times bk_froms bk_asks bk_words bk_firsts bk_lies bk_held bk_size nu_learned nu_size to_letterMarks to_names to_spelled to_rows to_alike to_near to_asks to_letters to_words to_askCount) → va_S A s.heap H locs → lv_has ls 3 [(0, .ref (a 3)), (1, .ref (adK 2)), (2, .int x2)] → W p l e { frames := 4, cells := 0, slots := 0, locals := 85 } s m args below meth c H locs 0 0 (MQ below (gI (dC, dI) (tyz cB cI cJ cZ) (wX cB cI cJ cZ a (a 35) (a 4) ww_latestFault tp_bytes tp_size rd_fault rd_faultPlace rd_kind rd_start rd_at rd_number dr_letterMarks dr_names dr_spelled dr_rows dr_alike dr_near dr_asks dr_letters dr_words dr_askCount sh_lanes sh_sizes sh_cells la_xs la_ys la_heights la_ridgeXs la_ridgeHeights la_way la_blurs la_steps la_places la_ridges la_wayBlur la_wayLength bk_times bk_froms bk_asks bk_words bk_firsts bk_lies bk_held bk_size nu_learned nu_size to_letterMarks to_names to_spelled to_rows to_alike to_near to_asks to_letters to_words to_askCount) A r0) args s 0 0 A) (F0 m 20 ls []) := by
  obtain ⟨hx, hb, hr, hml, hown, hts, hlocks, hK, hA, hE⟩ := id C0
  have hw0 := hts (.fieldLink RX6 9 "WhistledWords$TextReader" "tape" "LWhistledWords$Tape;") (by decide +kernel)
  have hw1 := hts (.fieldLink RX6 146 "WhistledWords$Tape" "bytes" "[B") (by decide +kernel)
  have hw2 := hts (.fieldLink RX6 51 "WhistledWords$TextReader" "start" "I") (by decide +kernel)
  have hnX6 : ∀ w ∈ u_ws RX6 TX6 8, w ∈ wsX6_spells := fun _ h => List.mem_cons_of_mem _ (List.mem_append_left _ (List.mem_append_right _ h))
  have hnX5 : ∀ w ∈ u_ws RX5 TX5 2, w ∈ wsX6_spells := fun _ h => List.mem_cons_of_mem _ (List.mem_append_right _ h)
  intro k
  induction k with
  | zero =>
    intro x2 H locs ls h
    cases h
  | succ k ih =>
    intro x2 H locs ls h hP hD hS hl
    rw [fX6_spells_p20] at h
    refine lv_iload_n hx hb dX6_spells_20 rfl (lv_at hl 2 rfl) ?_
    refine lv_aload_n hx hb dX6_spells_21 rfl (lv_at hl 1 rfl) ?_
    refine cS_len (k := 2) (rest := [.int x2]) (by decide) ⟨hx, hb, hml, hown, hts⟩ (cwV 0 hts gX6_spells_J0_length_8abf5 rfl rfl rfl (by decide +kernel) ⟨Nat.le_of_ble_eq_true rfl, Nat.le_of_ble_eq_true rfl⟩) hE.2.1 hP hS hl.1 rfl (Nat.le_of_ble_eq_true rfl) dX6_spells_22 ⟨Nat.zero_le _, Nat.zero_le _⟩ (fun H locs hP hS => ?_)
    refine lv_icmp_ge (tgt := 58) hx hb dX6_spells_25 (by decide) (fun c1 => ?_) (fun c1 => ?_)
    · have h := it_use c1 h
      refine lv_iconst (v := 1) hx hb dX6_spells_58 (by decide) ?_
      obtain er := rt1_use h
      exact re_z hx hb hr hlocks hK hP hD hS (Or.inr rfl) er dX6_spells_59
    · have h := ie_use c1 h
      refine lv_aload_n hx hb dX6_spells_28 rfl (lv_at hl 0 rfl) ?_
      refine gX_reader_tape hx hb hts hnX6 hown hK hP hw0 dX6_spells_29 ?_
      refine gX_tape_bytes hx hb hts hnX5 hown hK hP hw1 dX6_spells_32 ?_
      refine lv_aload_n hx hb dX6_spells_35 rfl (lv_at hl 0 rfl) ?_
      refine gX_reader_start hx hb hts hnX6 hown hK hP hw2 dX6_spells_36 ?_
      refine lv_iload_n hx hb dX6_spells_39 rfl (lv_at hl 2 rfl) ?_
      refine lv_iadd hx hb dX6_spells_40 ?_
      obtain ⟨hiv2, h⟩ := ar_use h
      refine lX_tape_bytes hx hb hK hP hiv2 dX6_spells_41 ?_
      refine lv_topi (fun v2 ev2 => ?_)
      have h := h v2 ev2
      refine lv_aload_n hx hb dX6_spells_42 rfl (lv_at hl 1 rfl) ?_
      refine lv_iload_n hx hb dX6_spells_43 rfl (lv_at hl 2 rfl) ?_
      obtain ⟨hiv3, h⟩ := ar_use h
      refine cS_chr (k := 2) (rest := [.int v2]) (by decide) ⟨hx, hb, hml, hown, hts⟩ hiv3 (cwV 1 hts gX6_spells_J0_charAt_5068e rfl rfl rfl (by decide +kernel) ⟨Nat.le_of_ble_eq_true rfl, Nat.le_of_ble_eq_true rfl⟩) hE.2.1 hP hS hl.1 rfl (Nat.le_of_ble_eq_true rfl) dX6_spells_44 ⟨Nat.zero_le _, Nat.zero_le _⟩ (fun H locs hP hS => ?_)
      refine lv_topi (fun v3 ev3 => ?_)
      have h := h v3 ev3
      refine lv_icmp_eq (tgt := 52) hx hb dX6_spells_47 (by decide) (fun c4 => ?_) (fun c4 => ?_)
      · have h := it_use c4 h
        refine lv_iinc (v := x2 + 1) (lv' := [(2, .int (x2 + 1)), (0, .ref (a 3)), (1, .ref (adK 2))]) hx hb dX6_spells_52 hl (k := 2) rfl rfl (by decide) rfl (fun ls hl => ?_)
        refine lv_goto (tgt := 20) hx hb dX6_spells_55 (by decide) ?_
        exact ih (x2 + 1) _ _ ls h hP hD hS (lv_sub hl [1, 2, 0] rfl)
      · have h := ie_use c4 h
        refine lv_iconst (v := 0) hx hb dX6_spells_50 (by decide) ?_
        obtain er := rt1_use h
        exact re_z hx hb hr hlocks hK hP hD hS (Or.inl rfl) er dX6_spells_51
theorem kX6_spells_2_p20 {p : Program} {l : Launch} {e : Env} {s : State} {m : MethodId} {args : Array Value} {below : List Frame} {meth : Method} {c : Code} {A : Nat → Prop} (dC : Nat → ClassId) (dI : Nat → Nat → Nat) (cB cI cJ cZ : ClassId) (a : Nat → Nat) (adK adV : Nat → Nat) (C0 : cxt cX6_spells (some .boolean) 3 RX6 wsX6_spells (dC, dI) (tyz cB cI cJ cZ) (E_X adK adV) A p s m args meth c) (n : Nat) (ww_latestFault : Int32) (tp_bytes : Nat → Int32) (tp_size : Int32) (rd_fault : Int32) (rd_faultPlace : Int32) (rd_kind : Int32) (rd_start : Int32) (rd_at : Int32) (rd_number : Int32) (dr_letterMarks : Nat → Int32) (dr_names : Nat → Int64) (dr_spelled : Nat → Int32) (dr_rows : Nat → Int64) (dr_alike : Nat → Int32) (dr_near : Nat → Int32) (dr_asks : Nat → Int32) (dr_letters : Int32) (dr_words : Int32) (dr_askCount : Int32) (sh_lanes : Nat → Int32) (sh_sizes : Nat → Int32) (sh_cells : Nat → Int32) (la_xs : Nat → Int32) (la_ys : Nat → Int32) (la_heights : Nat → Int32) (la_ridgeXs : Nat → Int32) (la_ridgeHeights : Nat → Int32) (la_way : Nat → Int32) (la_blurs : Nat → Int32) (la_steps : Nat → Int32) (la_places : Int32) (la_ridges : Int32) (la_wayBlur : Int32) (la_wayLength : Int32) (bk_times : Nat → Int32) (bk_froms : Nat → Int32) (bk_asks : Nat → Int32) (bk_words : Nat → Int32) (bk_firsts : Nat → Int32) (bk_lies : Nat → Int32) (bk_held : Nat → Int32) (bk_size : Int32) (nu_learned : Nat → Int32) (nu_size : Int32) (to_letterMarks : Nat → Int32) (to_names : Nat → Int64) (to_spelled : Nat → Int32) (to_rows : Nat → Int64) (to_alike : Nat → Int32) (to_near : Nat → Int32) (to_asks : Nat → Int32) (to_letters : Int32) (to_words : Int32) (to_askCount : Int32)  (x2 : Int32) (r0 : Int32)  (k : Nat) (H : Heap) (locs : List Loc) (ls : Array Slot) : fX6_spells_p20 n tp_bytes rd_start (lenS 2) (chS 2) k x2 = some r0 → va_P (dC, dI) vwCl (wX cB cI cJ cZ a (a 35) (a 4) ww_latestFault tp_bytes tp_size rd_fault rd_faultPlace rd_kind rd_start rd_at rd_number dr_letterMarks dr_names dr_spelled dr_rows dr_alike dr_near dr_asks dr_letters dr_words dr_askCount sh_lanes sh_sizes sh_cells la_xs la_ys la_heights la_ridgeXs la_ridgeHeights la_way la_blurs la_steps la_places la_ridges la_wayBlur la_wayLength bk_times bk_froms bk_asks bk_words bk_firsts bk_lies bk_held bk_size nu_learned nu_size to_letterMarks to_names to_spelled to_rows to_alike to_near to_asks to_letters to_words to_askCount) H → va_D A (wX cB cI cJ cZ a (a 35) (a 4) ww_latestFault tp_bytes tp_size rd_fault rd_faultPlace rd_kind rd_start rd_at rd_number dr_letterMarks dr_names dr_spelled dr_rows dr_alike dr_near dr_asks dr_letters dr_words dr_askCount sh_lanes sh_sizes sh_cells la_xs la_ys la_heights la_ridgeXs la_ridgeHeights la_way la_blurs la_steps la_places la_ridges la_wayBlur la_wayLength bk_times bk_froms bk_asks bk_words bk_firsts bk_lies bk_held bk_size nu_learned nu_size to_letterMarks to_names to_spelled to_rows to_alike to_near to_asks to_letters to_words to_askCount) → va_S A s.heap H locs → lv_has ls 3 [(0, .ref (a 3)), (1, .ref (adK 2)), (2, .int x2)] → W p l e { frames := 4, cells := 0, slots := 0, locals := 85 } s m args below meth c H locs 0 0 (MQ below (gI (dC, dI) (tyz cB cI cJ cZ) (wX cB cI cJ cZ a (a 35) (a 4) ww_latestFault tp_bytes tp_size rd_fault rd_faultPlace rd_kind rd_start rd_at rd_number dr_letterMarks dr_names dr_spelled dr_rows dr_alike dr_near dr_asks dr_letters dr_words dr_askCount sh_lanes sh_sizes sh_cells la_xs la_ys la_heights la_ridgeXs la_ridgeHeights la_way la_blurs la_steps la_places la_ridges la_wayBlur la_wayLength bk_times bk_froms bk_asks bk_words bk_firsts bk_lies bk_held bk_size nu_learned nu_size to_letterMarks to_names to_spelled to_rows to_alike to_near to_asks to_letters to_words to_askCount) A r0) args s 0 0 A) (F0 m 20 ls []) :=
  kX6_spells_2_p20_r dC dI cB cI cJ cZ a adK adV C0 n ww_latestFault tp_bytes tp_size rd_fault rd_faultPlace rd_kind rd_start rd_at rd_number dr_letterMarks dr_names dr_spelled dr_rows dr_alike dr_near dr_asks dr_letters dr_words dr_askCount sh_lanes sh_sizes sh_cells la_xs la_ys la_heights la_ridgeXs la_ridgeHeights la_way la_blurs la_steps la_places la_ridges la_wayBlur la_wayLength bk_times bk_froms bk_asks bk_words bk_firsts bk_lies bk_held bk_size nu_learned nu_size to_letterMarks to_names to_spelled to_rows to_alike to_near to_asks to_letters to_words to_askCount  r0  k x2 H locs ls
set_option maxHeartbeats 4000000 in
set_option maxRecDepth 100000 in
theorem kX6_spells_2 (l : Launch) (n : Nat) (dC : Nat → ClassId) (dI : Nat → Nat → Nat) (cB cI cJ cZ : ClassId) (a : Nat → Nat) (adK adV : Nat → Nat) (sz : Nat) (ww_latestFault : Int32) (tp_bytes : Nat → Int32) (tp_size : Int32) (rd_fault : Int32) (rd_faultPlace : Int32) (rd_kind : Int32) (rd_start : Int32) (rd_at : Int32) (rd_number : Int32) (dr_letterMarks : Nat → Int32) (dr_names : Nat → Int64) (dr_spelled : Nat → Int32) (dr_rows : Nat → Int64) (dr_alike : Nat → Int32) (dr_near : Nat → Int32) (dr_asks : Nat → Int32) (dr_letters : Int32) (dr_words : Int32) (dr_askCount : Int32) (sh_lanes : Nat → Int32) (sh_sizes : Nat → Int32) (sh_cells : Nat → Int32) (la_xs : Nat → Int32) (la_ys : Nat → Int32) (la_heights : Nat → Int32) (la_ridgeXs : Nat → Int32) (la_ridgeHeights : Nat → Int32) (la_way : Nat → Int32) (la_blurs : Nat → Int32) (la_steps : Nat → Int32) (la_places : Int32) (la_ridges : Int32) (la_wayBlur : Int32) (la_wayLength : Int32) (bk_times : Nat → Int32) (bk_froms : Nat → Int32) (bk_asks : Nat → Int32) (bk_words : Nat → Int32) (bk_firsts : Nat → Int32) (bk_lies : Nat → Int32) (bk_held : Nat → Int32) (bk_size : Int32) (nu_learned : Nat → Int32) (nu_size : Int32) (to_letterMarks : Nat → Int32) (to_names : Nat → Int64) (to_spelled : Nat → Int32) (to_rows : Nat → Int64) (to_alike : Nat → Int32) (to_near : Nat → Int32) (to_asks : Nat → Int32) (to_letters : Int32) (to_words : Int32) (to_askCount : Int32)  (r0 : Int32) (h : fX6_spells n tp_bytes rd_start rd_at  (lenS 2) (chS 2) = some r0) : Met l yX6_spells wsX6_spells ({ frames := 4, cells := 0, slots := 0, locals := 85 }) (gP (dC, dI) (tyz cB cI cJ cZ) (E_X adK adV) (wX cB cI cJ cZ a (a 35) (a 4) ww_latestFault tp_bytes tp_size rd_fault rd_faultPlace rd_kind rd_start rd_at rd_number dr_letterMarks dr_names dr_spelled dr_rows dr_alike dr_near dr_asks dr_letters dr_words dr_askCount sh_lanes sh_sizes sh_cells la_xs la_ys la_heights la_ridgeXs la_ridgeHeights la_way la_blurs la_steps la_places la_ridges la_wayBlur la_wayLength bk_times bk_froms bk_asks bk_words bk_firsts bk_lies bk_held bk_size nu_learned nu_size to_letterMarks to_names to_spelled to_rows to_alike to_near to_asks to_letters to_words to_askCount) sz [.ref (a 3), .ref (adK 2)]) (gI (dC, dI) (tyz cB cI cJ cZ) (wX cB cI cJ cZ a (a 35) (a 4) ww_latestFault tp_bytes tp_size rd_fault rd_faultPlace rd_kind rd_start rd_at rd_number dr_letterMarks dr_names dr_spelled dr_rows dr_alike dr_near dr_asks dr_letters dr_words dr_askCount sh_lanes sh_sizes sh_cells la_xs la_ys la_heights la_ridgeXs la_ridgeHeights la_way la_blurs la_steps la_places la_ridges la_wayBlur la_wayLength bk_times bk_froms bk_asks bk_words bk_firsts bk_lies bk_held bk_size nu_learned nu_size to_letterMarks to_names to_spelled to_rows to_alike to_near to_asks to_letters to_words to_askCount) (va_A (wX cB cI cJ cZ a (a 35) (a 4) ww_latestFault tp_bytes tp_size rd_fault rd_faultPlace rd_kind rd_start rd_at rd_number dr_letterMarks dr_names dr_spelled dr_rows dr_alike dr_near dr_asks dr_letters dr_words dr_askCount sh_lanes sh_sizes sh_cells la_xs la_ys la_heights la_ridgeXs la_ridgeHeights la_way la_blurs la_steps la_places la_ridges la_wayBlur la_wayLength bk_times bk_froms bk_asks bk_words bk_firsts bk_lies bk_held bk_size nu_learned nu_size to_letterMarks to_names to_spelled to_rows to_alike to_near to_asks to_letters to_words to_askCount) sz) r0) 0 0 (va_A (wX cB cI cJ cZ a (a 35) (a 4) ww_latestFault tp_bytes tp_size rd_fault rd_faultPlace rd_kind rd_start rd_at rd_number dr_letterMarks dr_names dr_spelled dr_rows dr_alike dr_near dr_asks dr_letters dr_words dr_askCount sh_lanes sh_sizes sh_cells la_xs la_ys la_heights la_ridgeXs la_ridgeHeights la_way la_blurs la_steps la_places la_ridges la_wayBlur la_wayLength bk_times bk_froms bk_asks bk_words bk_firsts bk_lies bk_held bk_size nu_learned nu_size to_letterMarks to_names to_spelled to_rows to_alike to_near to_asks to_letters to_words to_askCount) sz) := by
  refine Met.ofW (cc := cX6_spells) (maxL := 3) (ret := (some .boolean)) (by decide) rfl ?_
  intro p e s m args below meth c s₁ B hml hv
  obtain ⟨rfl, hsz, hP, hK, hD0, hE⟩ := hv
  have hx := B.exec
  have hb := B.bytes
  have hr := B.returns
  have hts := atoms_spec (ws := wsX6_spells) B.pre
  have hown : s.vm.findClass RX6 = some m.cls := findClass_of_methodNamed B.named
  have hlocks := B.notSynchronized
  subst hsz
  have hD := hD0.self (sz := s.heap.size)
  have hA : ∀ q : Nat, s.heap.size ≤ q → va_A (wX cB cI cJ cZ a (a 35) (a 4) ww_latestFault tp_bytes tp_size rd_fault rd_faultPlace rd_kind rd_start rd_at rd_number dr_letterMarks dr_names dr_spelled dr_rows dr_alike dr_near dr_asks dr_letters dr_words dr_askCount sh_lanes sh_sizes sh_cells la_xs la_ys la_heights la_ridgeXs la_ridgeHeights la_way la_blurs la_steps la_places la_ridges la_wayBlur la_wayLength bk_times bk_froms bk_asks bk_words bk_firsts bk_lies bk_held bk_size nu_learned nu_size to_letterMarks to_names to_spelled to_rows to_alike to_near to_asks to_letters to_words to_askCount) s.heap.size q := fun q h => Or.inr h
  generalize va_A (wX cB cI cJ cZ a (a 35) (a 4) ww_latestFault tp_bytes tp_size rd_fault rd_faultPlace rd_kind rd_start rd_at rd_number dr_letterMarks dr_names dr_spelled dr_rows dr_alike dr_near dr_asks dr_letters dr_words dr_askCount sh_lanes sh_sizes sh_cells la_xs la_ys la_heights la_ridgeXs la_ridgeHeights la_way la_blurs la_steps la_places la_ridges la_wayBlur la_wayLength bk_times bk_froms bk_asks bk_words bk_firsts bk_lies bk_held bk_size nu_learned nu_size to_letterMarks to_names to_spelled to_rows to_alike to_near to_asks to_letters to_words to_askCount) s.heap.size = A at hD hA hE ⊢
  have hS : va_S A s.heap s.heap [] := va_S.rf
  have C0 : cxt cX6_spells (some .boolean) 3 RX6 wsX6_spells (dC, dI) (tyz cB cI cJ cZ) (E_X adK adV) A p s m ([.ref (a 3), .ref (adK 2)] : List Value).toArray meth c := ⟨hx, hb, hr, hml, hown, hts, hlocks, hK, hA, hE⟩
  have hl := lv_entry ([.ref (a 3), .ref (adK 2)]) (n := 3) (Nat.le_of_ble_eq_true rfl)
  rw [lg_entry_eq]
  generalize (lg_sl ([.ref (a 3), .ref (adK 2)]) ++ List.replicate (3 - (lg_sl ([.ref (a 3), .ref (adK 2)])).length) Slot.unset).toArray = ls at hl ⊢
  have hl : lv_has ls 3 [(0, .ref (a 3)), (1, .ref (adK 2))] := hl
  have hw0 := hts (.fieldLink RX6 32 "WhistledWords$TextReader" "at" "I") (by decide +kernel)
  have hw1 := hts (.fieldLink RX6 51 "WhistledWords$TextReader" "start" "I") (by decide +kernel)
  have hnX6 : ∀ w ∈ u_ws RX6 TX6 8, w ∈ wsX6_spells := fun _ h => List.mem_cons_of_mem _ (List.mem_append_left _ (List.mem_append_right _ h))
  unfold fX6_spells at h
  refine lv_aload_n hx hb dX6_spells_0 rfl (lv_at hl 0 rfl) ?_
  refine gX_reader_at hx hb hts hnX6 hown hK hP hw0 dX6_spells_1 ?_
  refine lv_aload_n hx hb dX6_spells_4 rfl (lv_at hl 0 rfl) ?_
  refine gX_reader_start hx hb hts hnX6 hown hK hP hw1 dX6_spells_5 ?_
  refine lv_isub hx hb dX6_spells_8 ?_
  refine lv_aload_n hx hb dX6_spells_9 rfl (lv_at hl 1 rfl) ?_
  refine cS_len (k := 2) (rest := [.int (rd_at - rd_start)]) (by decide) ⟨hx, hb, hml, hown, hts⟩ (cwV 0 hts gX6_spells_J0_length_8abf5 rfl rfl rfl (by decide +kernel) ⟨Nat.le_of_ble_eq_true rfl, Nat.le_of_ble_eq_true rfl⟩) hE.2.1 hP hS hl.1 rfl (Nat.le_of_ble_eq_true rfl) dX6_spells_10 ⟨Nat.zero_le _, Nat.zero_le _⟩ (fun H locs hP hS => ?_)
  refine lv_icmp_eq (tgt := 18) hx hb dX6_spells_13 (by decide) (fun c1 => ?_) (fun c1 => ?_)
  · have h := it_use c1 h
    refine lv_iconst (v := 0) hx hb dX6_spells_18 (by decide) ?_
    refine lv_istore_n (lv' := [(2, .int (0 : Int32)), (0, .ref (a 3)), (1, .ref (adK 2))]) hx hb dX6_spells_19 rfl hl (by decide) rfl (fun ls hl => ?_)
    exact kX6_spells_2_p20 dC dI cB cI cJ cZ a adK adV C0 n ww_latestFault tp_bytes tp_size rd_fault rd_faultPlace rd_kind rd_start rd_at rd_number dr_letterMarks dr_names dr_spelled dr_rows dr_alike dr_near dr_asks dr_letters dr_words dr_askCount sh_lanes sh_sizes sh_cells la_xs la_ys la_heights la_ridgeXs la_ridgeHeights la_way la_blurs la_steps la_places la_ridges la_wayBlur la_wayLength bk_times bk_froms bk_asks bk_words bk_firsts bk_lies bk_held bk_size nu_learned nu_size to_letterMarks to_names to_spelled to_rows to_alike to_near to_asks to_letters to_words to_askCount (0 : Int32) r0  n _ _ ls h hP hD hS (lv_sub hl [1, 2, 0] rfl)
  · have h := ie_use c1 h
    refine lv_iconst (v := 0) hx hb dX6_spells_16 (by decide) ?_
    obtain er := rt1_use h
    exact re_z hx hb hr hlocks hK hP hD hS (Or.inl rfl) er dX6_spells_17
set_option maxHeartbeats 4000000 in
set_option maxRecDepth 100000 in
theorem kX6_readPlainLetter (l : Launch) (n : Nat) (dC : Nat → ClassId) (dI : Nat → Nat → Nat) (cB cI cJ cZ : ClassId) (a : Nat → Nat) (adK adV : Nat → Nat) (sz : Nat) (ww_latestFault : Int32) (tp_bytes : Nat → Int32) (tp_size : Int32) (rd_fault : Int32) (rd_faultPlace : Int32) (rd_kind : Int32) (rd_start : Int32) (rd_at : Int32) (rd_number : Int32) (dr_letterMarks : Nat → Int32) (dr_names : Nat → Int64) (dr_spelled : Nat → Int32) (dr_rows : Nat → Int64) (dr_alike : Nat → Int32) (dr_near : Nat → Int32) (dr_asks : Nat → Int32) (dr_letters : Int32) (dr_words : Int32) (dr_askCount : Int32) (sh_lanes : Nat → Int32) (sh_sizes : Nat → Int32) (sh_cells : Nat → Int32) (la_xs : Nat → Int32) (la_ys : Nat → Int32) (la_heights : Nat → Int32) (la_ridgeXs : Nat → Int32) (la_ridgeHeights : Nat → Int32) (la_way : Nat → Int32) (la_blurs : Nat → Int32) (la_steps : Nat → Int32) (la_places : Int32) (la_ridges : Int32) (la_wayBlur : Int32) (la_wayLength : Int32) (bk_times : Nat → Int32) (bk_froms : Nat → Int32) (bk_asks : Nat → Int32) (bk_words : Nat → Int32) (bk_firsts : Nat → Int32) (bk_lies : Nat → Int32) (bk_held : Nat → Int32) (bk_size : Int32) (nu_learned : Nat → Int32) (nu_size : Int32) (to_letterMarks : Nat → Int32) (to_names : Nat → Int64) (to_spelled : Nat → Int32) (to_rows : Nat → Int64) (to_alike : Nat → Int32) (to_near : Nat → Int32) (to_asks : Nat → Int32) (to_letters : Int32) (to_words : Int32) (to_askCount : Int32) (x1 : Int32) (r0 : Int32) (z_rd_fault : Int32) (z_rd_faultPlace : Int32) (z_rd_kind : Int32) (z_rd_start : Int32) (z_rd_at : Int32) (z_rd_number : Int32) (z_dr_letterMarks : Nat → Int32) (z_dr_letters : Int32) (h : fX6_readPlainLetter n tp_bytes tp_size rd_fault rd_faultPlace rd_kind rd_start rd_at rd_number dr_letterMarks dr_letters x1 = some (r0, z_rd_fault, z_rd_faultPlace, z_rd_kind, z_rd_start, z_rd_at, z_rd_number, z_dr_letterMarks, z_dr_letters)) : Met l yX6_readPlainLetter wsX6_readPlainLetter ({ frames := 3, cells := 0, slots := 0, locals := 62 }) (gP (dC, dI) (tyz cB cI cJ cZ) (E_X adK adV) (wX cB cI cJ cZ a (a 35) (a 4) ww_latestFault tp_bytes tp_size rd_fault rd_faultPlace rd_kind rd_start rd_at rd_number dr_letterMarks dr_names dr_spelled dr_rows dr_alike dr_near dr_asks dr_letters dr_words dr_askCount sh_lanes sh_sizes sh_cells la_xs la_ys la_heights la_ridgeXs la_ridgeHeights la_way la_blurs la_steps la_places la_ridges la_wayBlur la_wayLength bk_times bk_froms bk_asks bk_words bk_firsts bk_lies bk_held bk_size nu_learned nu_size to_letterMarks to_names to_spelled to_rows to_alike to_near to_asks to_letters to_words to_askCount) sz [.ref (a 3), .int x1]) (gI (dC, dI) (tyz cB cI cJ cZ) (wX cB cI cJ cZ a (a 35) (a 4) ww_latestFault tp_bytes tp_size z_rd_fault z_rd_faultPlace z_rd_kind z_rd_start z_rd_at z_rd_number z_dr_letterMarks dr_names dr_spelled dr_rows dr_alike dr_near dr_asks z_dr_letters dr_words dr_askCount sh_lanes sh_sizes sh_cells la_xs la_ys la_heights la_ridgeXs la_ridgeHeights la_way la_blurs la_steps la_places la_ridges la_wayBlur la_wayLength bk_times bk_froms bk_asks bk_words bk_firsts bk_lies bk_held bk_size nu_learned nu_size to_letterMarks to_names to_spelled to_rows to_alike to_near to_asks to_letters to_words to_askCount) (va_A (wX cB cI cJ cZ a (a 35) (a 4) ww_latestFault tp_bytes tp_size rd_fault rd_faultPlace rd_kind rd_start rd_at rd_number dr_letterMarks dr_names dr_spelled dr_rows dr_alike dr_near dr_asks dr_letters dr_words dr_askCount sh_lanes sh_sizes sh_cells la_xs la_ys la_heights la_ridgeXs la_ridgeHeights la_way la_blurs la_steps la_places la_ridges la_wayBlur la_wayLength bk_times bk_froms bk_asks bk_words bk_firsts bk_lies bk_held bk_size nu_learned nu_size to_letterMarks to_names to_spelled to_rows to_alike to_near to_asks to_letters to_words to_askCount) sz) r0) 0 0 (va_A (wX cB cI cJ cZ a (a 35) (a 4) ww_latestFault tp_bytes tp_size rd_fault rd_faultPlace rd_kind rd_start rd_at rd_number dr_letterMarks dr_names dr_spelled dr_rows dr_alike dr_near dr_asks dr_letters dr_words dr_askCount sh_lanes sh_sizes sh_cells la_xs la_ys la_heights la_ridgeXs la_ridgeHeights la_way la_blurs la_steps la_places la_ridges la_wayBlur la_wayLength bk_times bk_froms bk_asks bk_words bk_firsts bk_lies bk_held bk_size nu_learned nu_size to_letterMarks to_names to_spelled to_rows to_alike to_near to_asks to_letters to_words to_askCount) sz) := by
  refine Met.ofW (cc := cX6_readPlainLetter) (maxL := 2) (ret := (some .boolean)) (by decide) rfl ?_
  intro p e s m args below meth c s₁ B hml hv
  obtain ⟨rfl, hsz, hP, hK, hD0, hE⟩ := hv
  have hx := B.exec
  have hb := B.bytes
  have hr := B.returns
  have hts := atoms_spec (ws := wsX6_readPlainLetter) B.pre
  have hown : s.vm.findClass RX6 = some m.cls := findClass_of_methodNamed B.named
  have hlocks := B.notSynchronized
  subst hsz
  have hD := hD0.self (sz := s.heap.size)
  have hA : ∀ q : Nat, s.heap.size ≤ q → va_A (wX cB cI cJ cZ a (a 35) (a 4) ww_latestFault tp_bytes tp_size rd_fault rd_faultPlace rd_kind rd_start rd_at rd_number dr_letterMarks dr_names dr_spelled dr_rows dr_alike dr_near dr_asks dr_letters dr_words dr_askCount sh_lanes sh_sizes sh_cells la_xs la_ys la_heights la_ridgeXs la_ridgeHeights la_way la_blurs la_steps la_places la_ridges la_wayBlur la_wayLength bk_times bk_froms bk_asks bk_words bk_firsts bk_lies bk_held bk_size nu_learned nu_size to_letterMarks to_names to_spelled to_rows to_alike to_near to_asks to_letters to_words to_askCount) s.heap.size q := fun q h => Or.inr h
  generalize va_A (wX cB cI cJ cZ a (a 35) (a 4) ww_latestFault tp_bytes tp_size rd_fault rd_faultPlace rd_kind rd_start rd_at rd_number dr_letterMarks dr_names dr_spelled dr_rows dr_alike dr_near dr_asks dr_letters dr_words dr_askCount sh_lanes sh_sizes sh_cells la_xs la_ys la_heights la_ridgeXs la_ridgeHeights la_way la_blurs la_steps la_places la_ridges la_wayBlur la_wayLength bk_times bk_froms bk_asks bk_words bk_firsts bk_lies bk_held bk_size nu_learned nu_size to_letterMarks to_names to_spelled to_rows to_alike to_near to_asks to_letters to_words to_askCount) s.heap.size = A at hD hA hE ⊢
  have hS : va_S A s.heap s.heap [] := va_S.rf
  have C0 : cxt cX6_readPlainLetter (some .boolean) 2 RX6 wsX6_readPlainLetter (dC, dI) (tyz cB cI cJ cZ) (E_X adK adV) A p s m ([.ref (a 3), .int x1] : List Value).toArray meth c := ⟨hx, hb, hr, hml, hown, hts, hlocks, hK, hA, hE⟩
  have hl := lv_entry ([.ref (a 3), .int x1]) (n := 2) (Nat.le_of_ble_eq_true rfl)
  rw [lg_entry_eq]
  generalize (lg_sl ([.ref (a 3), .int x1]) ++ List.replicate (2 - (lg_sl ([.ref (a 3), .int x1])).length) Slot.unset).toArray = ls at hl ⊢
  have hl : lv_has ls 2 [(0, .ref (a 3)), (1, .int x1)] := hl
  have hw0 := hts (.fieldLink RX6 18 "WhistledWords$TextReader" "draft" "LWhistledWords$Tongue;") (by decide +kernel)
  have hw1 := hts (.fieldLink RX6 51 "WhistledWords$TextReader" "start" "I") (by decide +kernel)
  have hnX6 : ∀ w ∈ u_ws RX6 TX6 8, w ∈ wsX6_readPlainLetter := fun _ h => List.mem_cons_of_mem _ (List.mem_append_left _ (List.mem_append_left _ (List.mem_append_right _ h)))
  unfold fX6_readPlainLetter at h
  refine lv_aload_n hx hb dX6_readPlainLetter_0 rfl (lv_at hl 0 rfl) ?_
  obtain ⟨v1, v2, v3, v4, v5, v6, v7, hc, h⟩ := bd7_use h
  refine cv_i (As := []) (rest := []) ⟨hx, hb, hml, hown, hts⟩ (kX6_readNewLetter l n dC dI cB cI cJ cZ a adK adV _ ww_latestFault tp_bytes tp_size rd_fault rd_faultPlace rd_kind rd_start rd_at rd_number dr_letterMarks dr_names dr_spelled dr_rows dr_alike dr_near dr_asks dr_letters dr_words dr_askCount sh_lanes sh_sizes sh_cells la_xs la_ys la_heights la_ridgeXs la_ridgeHeights la_way la_blurs la_steps la_places la_ridges la_wayBlur la_wayLength bk_times bk_froms bk_asks bk_words bk_firsts bk_lies bk_held bk_size nu_learned nu_size to_letterMarks to_names to_spelled to_rows to_alike to_near to_asks to_letters to_words to_askCount  v1 v2 v3 v4 v5 v6 v7 hc) (cwV 0 hts gX6_readPlainLetter_X6_readNewLetter rfl rfl rfl (by decide +kernel) ⟨Nat.le_of_ble_eq_true rfl, Nat.le_of_ble_eq_true rfl⟩) EB_X hE hK hP hD hS hA 3 (ci := 5) rfl rfl rfl rfl hl.1 rfl (Nat.le_of_ble_eq_true rfl) dX6_readPlainLetter_1 ⟨Nat.zero_le _, Nat.zero_le _⟩ (fun H locs hP hD hS => ?_)
  refine lv_if_ne (tgt := 9) hx hb dX6_readPlainLetter_4 (by decide) (fun c8 => ?_) (fun c8 => ?_)
  · have h := ie_use c8 h
    refine lv_aload_n hx hb dX6_readPlainLetter_9 rfl (lv_at hl 0 rfl) ?_
    refine gX_reader_draft hx hb hts hnX6 hown hK hP hw0 dX6_readPlainLetter_10 ?_
    refine lv_aload_n hx hb dX6_readPlainLetter_13 rfl (lv_at hl 0 rfl) ?_
    refine lv_aload_n hx hb dX6_readPlainLetter_14 rfl (lv_at hl 0 rfl) ?_
    refine gX_reader_start hx hb hts hnX6 hown hK hP hw1 dX6_readPlainLetter_15 ?_
    obtain ⟨v9, hc, h⟩ := bd1_use h
    refine cv_i (As := [.int v5]) (rest := [.ref (a 4)]) ⟨hx, hb, hml, hown, hts⟩ (kX6_letterAt l n dC dI cB cI cJ cZ a adK adV _ ww_latestFault tp_bytes tp_size v2 v3 v4 v5 v6 v7 dr_letterMarks dr_names dr_spelled dr_rows dr_alike dr_near dr_asks dr_letters dr_words dr_askCount sh_lanes sh_sizes sh_cells la_xs la_ys la_heights la_ridgeXs la_ridgeHeights la_way la_blurs la_steps la_places la_ridges la_wayBlur la_wayLength bk_times bk_froms bk_asks bk_words bk_firsts bk_lies bk_held bk_size nu_learned nu_size to_letterMarks to_names to_spelled to_rows to_alike to_near to_asks to_letters to_words to_askCount v5 v9 hc) (cwV 1 hts gX6_readPlainLetter_X6_letterAt rfl rfl rfl (by decide +kernel) ⟨Nat.le_of_ble_eq_true rfl, Nat.le_of_ble_eq_true rfl⟩) EB_X hE hK hP hD hS hA 3 (ci := 5) rfl rfl rfl rfl hl.1 rfl (Nat.le_of_ble_eq_true rfl) dX6_readPlainLetter_18 ⟨Nat.zero_le _, Nat.zero_le _⟩ (fun H locs hP hD hS => ?_)
    refine lv_iload_n hx hb dX6_readPlainLetter_21 rfl (lv_at hl 1 rfl) ?_
    obtain ⟨f10, v11, hc, h⟩ := bd2_use h
    refine cv_v (As := [.int v9, .int x1]) (rest := []) ⟨hx, hb, hml, hown, hts⟩ (kX7_tellLetter_D l n dC dI cB cI cJ cZ a adK adV _ ww_latestFault tp_bytes tp_size v2 v3 v4 v5 v6 v7 dr_letterMarks dr_names dr_spelled dr_rows dr_alike dr_near dr_asks dr_letters dr_words dr_askCount sh_lanes sh_sizes sh_cells la_xs la_ys la_heights la_ridgeXs la_ridgeHeights la_way la_blurs la_steps la_places la_ridges la_wayBlur la_wayLength bk_times bk_froms bk_asks bk_words bk_firsts bk_lies bk_held bk_size nu_learned nu_size to_letterMarks to_names to_spelled to_rows to_alike to_near to_asks to_letters to_words to_askCount v9 x1 f10 v11 hc) (cwV 2 hts gX6_readPlainLetter_X7_tellLetter rfl rfl rfl (by decide +kernel) ⟨Nat.le_of_ble_eq_true rfl, Nat.le_of_ble_eq_true rfl⟩) EB_X hE hK hP hD hS hA 4 (ci := 6) rfl rfl rfl rfl hl.1 rfl (Nat.le_of_ble_eq_true rfl) dX6_readPlainLetter_22 ⟨Nat.zero_le _, Nat.zero_le _⟩ (fun H locs hP hD hS => ?_)
    refine lv_aload_n hx hb dX6_readPlainLetter_25 rfl (lv_at hl 0 rfl) ?_
    refine lv_iconst (v := 3) hx hb dX6_readPlainLetter_26 (by decide) ?_
    obtain ⟨v12, v13, v14, v15, v16, v17, v18, hc, h⟩ := bd7_use h
    refine cv_i (As := [.int (3 : Int32)]) (rest := []) ⟨hx, hb, hml, hown, hts⟩ (kX6_expect l n dC dI cB cI cJ cZ a adK adV _ ww_latestFault tp_bytes tp_size v2 v3 v4 v5 v6 v7 f10 dr_names dr_spelled dr_rows dr_alike dr_near dr_asks v11 dr_words dr_askCount sh_lanes sh_sizes sh_cells la_xs la_ys la_heights la_ridgeXs la_ridgeHeights la_way la_blurs la_steps la_places la_ridges la_wayBlur la_wayLength bk_times bk_froms bk_asks bk_words bk_firsts bk_lies bk_held bk_size nu_learned nu_size to_letterMarks to_names to_spelled to_rows to_alike to_near to_asks to_letters to_words to_askCount (3 : Int32) v12 v13 v14 v15 v16 v17 v18 hc) (cwV 1 hts gX6_readPlainLetter_X6_expect rfl rfl rfl (by decide +kernel) ⟨Nat.le_of_ble_eq_true rfl, Nat.le_of_ble_eq_true rfl⟩) EB_X hE hK hP hD hS hA 3 (ci := 5) rfl rfl rfl rfl hl.1 rfl (Nat.le_of_ble_eq_true rfl) dX6_readPlainLetter_27 ⟨Nat.zero_le _, Nat.zero_le _⟩ (fun H locs hP hD hS => ?_)
    obtain ⟨hzb, h⟩ := rb_use h
    obtain ⟨er, ez0, ez1, ez2, ez3, ez4, ez5, ez6, ez7⟩ := rt9_use h
    subst ez0
    subst ez1
    subst ez2
    subst ez3
    subst ez4
    subst ez5
    subst ez6
    subst ez7
    exact re_z hx hb hr hlocks hK hP hD hS hzb er dX6_readPlainLetter_30
  · have h := it_use c8 h
    refine lv_iconst (v := 0) hx hb dX6_readPlainLetter_7 (by decide) ?_
    obtain ⟨er, ez0, ez1, ez2, ez3, ez4, ez5, ez6, ez7⟩ := rt9_use h
    subst ez0
    subst ez1
    subst ez2
    subst ez3
    subst ez4
    subst ez5
    subst ez6
    subst ez7
    exact re_z hx hb hr hlocks hK hP hD hS (Or.inl rfl) er dX6_readPlainLetter_8
set_option maxHeartbeats 4000000 in
set_option maxRecDepth 100000 in
theorem kX6_spells_3_p20_r {p : Program} {l : Launch} {e : Env} {s : State} {m : MethodId} {args : Array Value} {below : List Frame} {meth : Method} {c : Code} {A : Nat → Prop} (dC : Nat → ClassId) (dI : Nat → Nat → Nat) (cB cI cJ cZ : ClassId) (a : Nat → Nat) (adK adV : Nat → Nat) (C0 : cxt cX6_spells (some .boolean) 3 RX6 wsX6_spells (dC, dI) (tyz cB cI cJ cZ) (E_X adK adV) A p s m args meth c) (n : Nat) (ww_latestFault : Int32) (tp_bytes : Nat → Int32) (tp_size : Int32) (rd_fault : Int32) (rd_faultPlace : Int32) (rd_kind : Int32) (rd_start : Int32) (rd_at : Int32) (rd_number : Int32) (dr_letterMarks : Nat → Int32) (dr_names : Nat → Int64) (dr_spelled : Nat → Int32) (dr_rows : Nat → Int64) (dr_alike : Nat → Int32) (dr_near : Nat → Int32) (dr_asks : Nat → Int32) (dr_letters : Int32) (dr_words : Int32) (dr_askCount : Int32) (sh_lanes : Nat → Int32) (sh_sizes : Nat → Int32) (sh_cells : Nat → Int32) (la_xs : Nat → Int32) (la_ys : Nat → Int32) (la_heights : Nat → Int32) (la_ridgeXs : Nat → Int32) (la_ridgeHeights : Nat → Int32) (la_way : Nat → Int32) (la_blurs : Nat → Int32) (la_steps : Nat → Int32) (la_places : Int32) (la_ridges : Int32) (la_wayBlur : Int32) (la_wayLength : Int32) (bk_times : Nat → Int32) (bk_froms : Nat → Int32) (bk_asks : Nat → Int32) (bk_words : Nat → Int32) (bk_firsts : Nat → Int32) (bk_lies : Nat → Int32) (bk_held : Nat → Int32) (bk_size : Int32) (nu_learned : Nat → Int32) (nu_size : Int32) (to_letterMarks : Nat → Int32) (to_names : Nat → Int64) (to_spelled : Nat → Int32) (to_rows : Nat → Int64) (to_alike : Nat → Int32) (to_near : Nat → Int32) (to_asks : Nat → Int32) (to_letters : Int32) (to_words : Int32) (to_askCount : Int32)  (r0 : Int32)  : ∀ (k : Nat) (x2 : Int32) (H : Heap) (locs : List Loc) (ls : Array Slot), fX6_spells_p20 n tp_bytes rd_start (lenS 3) (chS 3) k x2 = some r0 → va_P (dC, dI) vwCl (wX cB cI cJ cZ a (a 35) (a 4) ww_latestFault tp_bytes tp_size rd_fault rd_faultPlace rd_kind rd_start rd_at rd_number dr_letterMarks dr_names dr_spelled dr_rows dr_alike dr_near dr_asks dr_letters dr_words dr_askCount sh_lanes sh_sizes sh_cells la_xs la_ys la_heights la_ridgeXs la_ridgeHeights la_way la_blurs la_steps la_places la_ridges la_wayBlur la_wayLength bk_times bk_froms bk_asks bk_words bk_firsts bk_lies bk_held bk_size nu_learned nu_size to_letterMarks to_names to_spelled to_rows to_alike to_near to_asks to_letters to_words to_askCount) H → va_D A (wX cB cI cJ cZ a (a 35) (a 4) ww_latestFault tp_bytes tp_size rd_fault rd_faultPlace rd_kind rd_start rd_at rd_number dr_letterMarks dr_names dr_spelled dr_rows dr_alike dr_near dr_asks dr_letters dr_words dr_askCount sh_lanes sh_sizes sh_cells la_xs la_ys la_heights la_ridgeXs la_ridgeHeights la_way la_blurs la_steps la_places la_ridges la_wayBlur la_wayLength bk_times bk_froms bk_asks bk_words bk_firsts bk_lies bk_held bk_size nu_learned nu_size to_letterMarks to_names to_spelled to_rows to_alike to_near to_asks to_letters to_words to_askCount) → va_S A s.heap H locs → lv_has ls 3 [(0, .ref (a 3)), (1, .ref (adK 3)), (2, .int x2)] → W p l e { frames := 4, cells := 0, slots := 0, locals := 85 } s m args below meth c H locs 0 0 (MQ below (gI (dC, dI) (tyz cB cI cJ cZ) (wX cB cI cJ cZ a (a 35) (a 4) ww_latestFault tp_bytes tp_size rd_fault rd_faultPlace rd_kind rd_start rd_at rd_number dr_letterMarks dr_names dr_spelled dr_rows dr_alike dr_near dr_asks dr_letters dr_words dr_askCount sh_lanes sh_sizes sh_cells la_xs la_ys la_heights la_ridgeXs la_ridgeHeights la_way la_blurs la_steps la_places la_ridges la_wayBlur la_wayLength bk_times bk_froms bk_asks bk_words bk_firsts bk_lies bk_held bk_size nu_learned nu_size to_letterMarks to_names to_spelled to_rows to_alike to_near to_asks to_letters to_words to_askCount) A r0) args s 0 0 A) (F0 m 20 ls []) := by
  obtain ⟨hx, hb, hr, hml, hown, hts, hlocks, hK, hA, hE⟩ := id C0
  have hw0 := hts (.fieldLink RX6 9 "WhistledWords$TextReader" "tape" "LWhistledWords$Tape;") (by decide +kernel)
  have hw1 := hts (.fieldLink RX6 146 "WhistledWords$Tape" "bytes" "[B") (by decide +kernel)
  have hw2 := hts (.fieldLink RX6 51 "WhistledWords$TextReader" "start" "I") (by decide +kernel)
  have hnX6 : ∀ w ∈ u_ws RX6 TX6 8, w ∈ wsX6_spells := fun _ h => List.mem_cons_of_mem _ (List.mem_append_left _ (List.mem_append_right _ h))
  have hnX5 : ∀ w ∈ u_ws RX5 TX5 2, w ∈ wsX6_spells := fun _ h => List.mem_cons_of_mem _ (List.mem_append_right _ h)
  intro k
  induction k with
  | zero =>
    intro x2 H locs ls h
    cases h
  | succ k ih =>
    intro x2 H locs ls h hP hD hS hl
    rw [fX6_spells_p20] at h
    refine lv_iload_n hx hb dX6_spells_20 rfl (lv_at hl 2 rfl) ?_
    refine lv_aload_n hx hb dX6_spells_21 rfl (lv_at hl 1 rfl) ?_
    refine cS_len (k := 3) (rest := [.int x2]) (by decide) ⟨hx, hb, hml, hown, hts⟩ (cwV 0 hts gX6_spells_J0_length_8abf5 rfl rfl rfl (by decide +kernel) ⟨Nat.le_of_ble_eq_true rfl, Nat.le_of_ble_eq_true rfl⟩) hE.2.1 hP hS hl.1 rfl (Nat.le_of_ble_eq_true rfl) dX6_spells_22 ⟨Nat.zero_le _, Nat.zero_le _⟩ (fun H locs hP hS => ?_)
    refine lv_icmp_ge (tgt := 58) hx hb dX6_spells_25 (by decide) (fun c1 => ?_) (fun c1 => ?_)
    · have h := it_use c1 h
      refine lv_iconst (v := 1) hx hb dX6_spells_58 (by decide) ?_
      obtain er := rt1_use h
      exact re_z hx hb hr hlocks hK hP hD hS (Or.inr rfl) er dX6_spells_59
    · have h := ie_use c1 h
      refine lv_aload_n hx hb dX6_spells_28 rfl (lv_at hl 0 rfl) ?_
      refine gX_reader_tape hx hb hts hnX6 hown hK hP hw0 dX6_spells_29 ?_
      refine gX_tape_bytes hx hb hts hnX5 hown hK hP hw1 dX6_spells_32 ?_
      refine lv_aload_n hx hb dX6_spells_35 rfl (lv_at hl 0 rfl) ?_
      refine gX_reader_start hx hb hts hnX6 hown hK hP hw2 dX6_spells_36 ?_
      refine lv_iload_n hx hb dX6_spells_39 rfl (lv_at hl 2 rfl) ?_
      refine lv_iadd hx hb dX6_spells_40 ?_
      obtain ⟨hiv2, h⟩ := ar_use h
      refine lX_tape_bytes hx hb hK hP hiv2 dX6_spells_41 ?_
      refine lv_topi (fun v2 ev2 => ?_)
      have h := h v2 ev2
      refine lv_aload_n hx hb dX6_spells_42 rfl (lv_at hl 1 rfl) ?_
      refine lv_iload_n hx hb dX6_spells_43 rfl (lv_at hl 2 rfl) ?_
      obtain ⟨hiv3, h⟩ := ar_use h
      refine cS_chr (k := 3) (rest := [.int v2]) (by decide) ⟨hx, hb, hml, hown, hts⟩ hiv3 (cwV 1 hts gX6_spells_J0_charAt_5068e rfl rfl rfl (by decide +kernel) ⟨Nat.le_of_ble_eq_true rfl, Nat.le_of_ble_eq_true rfl⟩) hE.2.1 hP hS hl.1 rfl (Nat.le_of_ble_eq_true rfl) dX6_spells_44 ⟨Nat.zero_le _, Nat.zero_le _⟩ (fun H locs hP hS => ?_)
      refine lv_topi (fun v3 ev3 => ?_)
      have h := h v3 ev3
      refine lv_icmp_eq (tgt := 52) hx hb dX6_spells_47 (by decide) (fun c4 => ?_) (fun c4 => ?_)
      · have h := it_use c4 h
        refine lv_iinc (v := x2 + 1) (lv' := [(2, .int (x2 + 1)), (0, .ref (a 3)), (1, .ref (adK 3))]) hx hb dX6_spells_52 hl (k := 2) rfl rfl (by decide) rfl (fun ls hl => ?_)
        refine lv_goto (tgt := 20) hx hb dX6_spells_55 (by decide) ?_
        exact ih (x2 + 1) _ _ ls h hP hD hS (lv_sub hl [1, 2, 0] rfl)
      · have h := ie_use c4 h
        refine lv_iconst (v := 0) hx hb dX6_spells_50 (by decide) ?_
        obtain er := rt1_use h
        exact re_z hx hb hr hlocks hK hP hD hS (Or.inl rfl) er dX6_spells_51
theorem kX6_spells_3_p20 {p : Program} {l : Launch} {e : Env} {s : State} {m : MethodId} {args : Array Value} {below : List Frame} {meth : Method} {c : Code} {A : Nat → Prop} (dC : Nat → ClassId) (dI : Nat → Nat → Nat) (cB cI cJ cZ : ClassId) (a : Nat → Nat) (adK adV : Nat → Nat) (C0 : cxt cX6_spells (some .boolean) 3 RX6 wsX6_spells (dC, dI) (tyz cB cI cJ cZ) (E_X adK adV) A p s m args meth c) (n : Nat) (ww_latestFault : Int32) (tp_bytes : Nat → Int32) (tp_size : Int32) (rd_fault : Int32) (rd_faultPlace : Int32) (rd_kind : Int32) (rd_start : Int32) (rd_at : Int32) (rd_number : Int32) (dr_letterMarks : Nat → Int32) (dr_names : Nat → Int64) (dr_spelled : Nat → Int32) (dr_rows : Nat → Int64) (dr_alike : Nat → Int32) (dr_near : Nat → Int32) (dr_asks : Nat → Int32) (dr_letters : Int32) (dr_words : Int32) (dr_askCount : Int32) (sh_lanes : Nat → Int32) (sh_sizes : Nat → Int32) (sh_cells : Nat → Int32) (la_xs : Nat → Int32) (la_ys : Nat → Int32) (la_heights : Nat → Int32) (la_ridgeXs : Nat → Int32) (la_ridgeHeights : Nat → Int32) (la_way : Nat → Int32) (la_blurs : Nat → Int32) (la_steps : Nat → Int32) (la_places : Int32) (la_ridges : Int32) (la_wayBlur : Int32) (la_wayLength : Int32) (bk_times : Nat → Int32) (bk_froms : Nat → Int32) (bk_asks : Nat → Int32) (bk_words : Nat → Int32) (bk_firsts : Nat → Int32) (bk_lies : Nat → Int32) (bk_held : Nat → Int32) (bk_size : Int32) (nu_learned : Nat → Int32) (nu_size : Int32) (to_letterMarks : Nat → Int32) (to_names : Nat → Int64) (to_spelled : Nat → Int32) (to_rows : Nat → Int64) (to_alike : Nat → Int32) (to_near : Nat → Int32) (to_asks : Nat → Int32) (to_letters : Int32) (to_words : Int32) (to_askCount : Int32)  (x2 : Int32) (r0 : Int32)  (k : Nat) (H : Heap) (locs : List Loc) (ls : Array Slot) : fX6_spells_p20 n tp_bytes rd_start (lenS 3) (chS 3) k x2 = some r0 → va_P (dC, dI) vwCl (wX cB cI cJ cZ a (a 35) (a 4) ww_latestFault tp_bytes tp_size rd_fault rd_faultPlace rd_kind rd_start rd_at rd_number dr_letterMarks dr_names dr_spelled dr_rows dr_alike dr_near dr_asks dr_letters dr_words dr_askCount sh_lanes sh_sizes sh_cells la_xs la_ys la_heights la_ridgeXs la_ridgeHeights la_way la_blurs la_steps la_places la_ridges la_wayBlur la_wayLength bk_times bk_froms bk_asks bk_words bk_firsts bk_lies bk_held bk_size nu_learned nu_size to_letterMarks to_names to_spelled to_rows to_alike to_near to_asks to_letters to_words to_askCount) H → va_D A (wX cB cI cJ cZ a (a 35) (a 4) ww_latestFault tp_bytes tp_size rd_fault rd_faultPlace rd_kind rd_start rd_at rd_number dr_letterMarks dr_names dr_spelled dr_rows dr_alike dr_near dr_asks dr_letters dr_words dr_askCount sh_lanes sh_sizes sh_cells la_xs la_ys la_heights la_ridgeXs la_ridgeHeights la_way la_blurs la_steps la_places la_ridges la_wayBlur la_wayLength bk_times bk_froms bk_asks bk_words bk_firsts bk_lies bk_held bk_size nu_learned nu_size to_letterMarks to_names to_spelled to_rows to_alike to_near to_asks to_letters to_words to_askCount) → va_S A s.heap H locs → lv_has ls 3 [(0, .ref (a 3)), (1, .ref (adK 3)), (2, .int x2)] → W p l e { frames := 4, cells := 0, slots := 0, locals := 85 } s m args below meth c H locs 0 0 (MQ below (gI (dC, dI) (tyz cB cI cJ cZ) (wX cB cI cJ cZ a (a 35) (a 4) ww_latestFault tp_bytes tp_size rd_fault rd_faultPlace rd_kind rd_start rd_at rd_number dr_letterMarks dr_names dr_spelled dr_rows dr_alike dr_near dr_asks dr_letters dr_words dr_askCount sh_lanes sh_sizes sh_cells la_xs la_ys la_heights la_ridgeXs la_ridgeHeights la_way la_blurs la_steps la_places la_ridges la_wayBlur la_wayLength bk_times bk_froms bk_asks bk_words bk_firsts bk_lies bk_held bk_size nu_learned nu_size to_letterMarks to_names to_spelled to_rows to_alike to_near to_asks to_letters to_words to_askCount) A r0) args s 0 0 A) (F0 m 20 ls []) :=
  kX6_spells_3_p20_r dC dI cB cI cJ cZ a adK adV C0 n ww_latestFault tp_bytes tp_size rd_fault rd_faultPlace rd_kind rd_start rd_at rd_number dr_letterMarks dr_names dr_spelled dr_rows dr_alike dr_near dr_asks dr_letters dr_words dr_askCount sh_lanes sh_sizes sh_cells la_xs la_ys la_heights la_ridgeXs la_ridgeHeights la_way la_blurs la_steps la_places la_ridges la_wayBlur la_wayLength bk_times bk_froms bk_asks bk_words bk_firsts bk_lies bk_held bk_size nu_learned nu_size to_letterMarks to_names to_spelled to_rows to_alike to_near to_asks to_letters to_words to_askCount  r0  k x2 H locs ls
set_option maxHeartbeats 4000000 in
set_option maxRecDepth 100000 in
theorem kX6_spells_3 (l : Launch) (n : Nat) (dC : Nat → ClassId) (dI : Nat → Nat → Nat) (cB cI cJ cZ : ClassId) (a : Nat → Nat) (adK adV : Nat → Nat) (sz : Nat) (ww_latestFault : Int32) (tp_bytes : Nat → Int32) (tp_size : Int32) (rd_fault : Int32) (rd_faultPlace : Int32) (rd_kind : Int32) (rd_start : Int32) (rd_at : Int32) (rd_number : Int32) (dr_letterMarks : Nat → Int32) (dr_names : Nat → Int64) (dr_spelled : Nat → Int32) (dr_rows : Nat → Int64) (dr_alike : Nat → Int32) (dr_near : Nat → Int32) (dr_asks : Nat → Int32) (dr_letters : Int32) (dr_words : Int32) (dr_askCount : Int32) (sh_lanes : Nat → Int32) (sh_sizes : Nat → Int32) (sh_cells : Nat → Int32) (la_xs : Nat → Int32) (la_ys : Nat → Int32) (la_heights : Nat → Int32) (la_ridgeXs : Nat → Int32) (la_ridgeHeights : Nat → Int32) (la_way : Nat → Int32) (la_blurs : Nat → Int32) (la_steps : Nat → Int32) (la_places : Int32) (la_ridges : Int32) (la_wayBlur : Int32) (la_wayLength : Int32) (bk_times : Nat → Int32) (bk_froms : Nat → Int32) (bk_asks : Nat → Int32) (bk_words : Nat → Int32) (bk_firsts : Nat → Int32) (bk_lies : Nat → Int32) (bk_held : Nat → Int32) (bk_size : Int32) (nu_learned : Nat → Int32) (nu_size : Int32) (to_letterMarks : Nat → Int32) (to_names : Nat → Int64) (to_spelled : Nat → Int32) (to_rows : Nat → Int64) (to_alike : Nat → Int32) (to_near : Nat → Int32) (to_asks : Nat → Int32) (to_letters : Int32) (to_words : Int32) (to_askCount : Int32)  (r0 : Int32) (h : fX6_spells n tp_bytes rd_start rd_at  (lenS 3) (chS 3) = some r0) : Met l yX6_spells wsX6_spells ({ frames := 4, cells := 0, slots := 0, locals := 85 }) (gP (dC, dI) (tyz cB cI cJ cZ) (E_X adK adV) (wX cB cI cJ cZ a (a 35) (a 4) ww_latestFault tp_bytes tp_size rd_fault rd_faultPlace rd_kind rd_start rd_at rd_number dr_letterMarks dr_names dr_spelled dr_rows dr_alike dr_near dr_asks dr_letters dr_words dr_askCount sh_lanes sh_sizes sh_cells la_xs la_ys la_heights la_ridgeXs la_ridgeHeights la_way la_blurs la_steps la_places la_ridges la_wayBlur la_wayLength bk_times bk_froms bk_asks bk_words bk_firsts bk_lies bk_held bk_size nu_learned nu_size to_letterMarks to_names to_spelled to_rows to_alike to_near to_asks to_letters to_words to_askCount) sz [.ref (a 3), .ref (adK 3)]) (gI (dC, dI) (tyz cB cI cJ cZ) (wX cB cI cJ cZ a (a 35) (a 4) ww_latestFault tp_bytes tp_size rd_fault rd_faultPlace rd_kind rd_start rd_at rd_number dr_letterMarks dr_names dr_spelled dr_rows dr_alike dr_near dr_asks dr_letters dr_words dr_askCount sh_lanes sh_sizes sh_cells la_xs la_ys la_heights la_ridgeXs la_ridgeHeights la_way la_blurs la_steps la_places la_ridges la_wayBlur la_wayLength bk_times bk_froms bk_asks bk_words bk_firsts bk_lies bk_held bk_size nu_learned nu_size to_letterMarks to_names to_spelled to_rows to_alike to_near to_asks to_letters to_words to_askCount) (va_A (wX cB cI cJ cZ a (a 35) (a 4) ww_latestFault tp_bytes tp_size rd_fault rd_faultPlace rd_kind rd_start rd_at rd_number dr_letterMarks dr_names dr_spelled dr_rows dr_alike dr_near dr_asks dr_letters dr_words dr_askCount sh_lanes sh_sizes sh_cells la_xs la_ys la_heights la_ridgeXs la_ridgeHeights la_way la_blurs la_steps la_places la_ridges la_wayBlur la_wayLength bk_times bk_froms bk_asks bk_words bk_firsts bk_lies bk_held bk_size nu_learned nu_size to_letterMarks to_names to_spelled to_rows to_alike to_near to_asks to_letters to_words to_askCount) sz) r0) 0 0 (va_A (wX cB cI cJ cZ a (a 35) (a 4) ww_latestFault tp_bytes tp_size rd_fault rd_faultPlace rd_kind rd_start rd_at rd_number dr_letterMarks dr_names dr_spelled dr_rows dr_alike dr_near dr_asks dr_letters dr_words dr_askCount sh_lanes sh_sizes sh_cells la_xs la_ys la_heights la_ridgeXs la_ridgeHeights la_way la_blurs la_steps la_places la_ridges la_wayBlur la_wayLength bk_times bk_froms bk_asks bk_words bk_firsts bk_lies bk_held bk_size nu_learned nu_size to_letterMarks to_names to_spelled to_rows to_alike to_near to_asks to_letters to_words to_askCount) sz) := by
  refine Met.ofW (cc := cX6_spells) (maxL := 3) (ret := (some .boolean)) (by decide) rfl ?_
  intro p e s m args below meth c s₁ B hml hv
  obtain ⟨rfl, hsz, hP, hK, hD0, hE⟩ := hv
  have hx := B.exec
  have hb := B.bytes
  have hr := B.returns
  have hts := atoms_spec (ws := wsX6_spells) B.pre
  have hown : s.vm.findClass RX6 = some m.cls := findClass_of_methodNamed B.named
  have hlocks := B.notSynchronized
  subst hsz
  have hD := hD0.self (sz := s.heap.size)
  have hA : ∀ q : Nat, s.heap.size ≤ q → va_A (wX cB cI cJ cZ a (a 35) (a 4) ww_latestFault tp_bytes tp_size rd_fault rd_faultPlace rd_kind rd_start rd_at rd_number dr_letterMarks dr_names dr_spelled dr_rows dr_alike dr_near dr_asks dr_letters dr_words dr_askCount sh_lanes sh_sizes sh_cells la_xs la_ys la_heights la_ridgeXs la_ridgeHeights la_way la_blurs la_steps la_places la_ridges la_wayBlur la_wayLength bk_times bk_froms bk_asks bk_words bk_firsts bk_lies bk_held bk_size nu_learned nu_size to_letterMarks to_names to_spelled to_rows to_alike to_near to_asks to_letters to_words to_askCount) s.heap.size q := fun q h => Or.inr h
  generalize va_A (wX cB cI cJ cZ a (a 35) (a 4) ww_latestFault tp_bytes tp_size rd_fault rd_faultPlace rd_kind rd_start rd_at rd_number dr_letterMarks dr_names dr_spelled dr_rows dr_alike dr_near dr_asks dr_letters dr_words dr_askCount sh_lanes sh_sizes sh_cells la_xs la_ys la_heights la_ridgeXs la_ridgeHeights la_way la_blurs la_steps la_places la_ridges la_wayBlur la_wayLength bk_times bk_froms bk_asks bk_words bk_firsts bk_lies bk_held bk_size nu_learned nu_size to_letterMarks to_names to_spelled to_rows to_alike to_near to_asks to_letters to_words to_askCount) s.heap.size = A at hD hA hE ⊢
  have hS : va_S A s.heap s.heap [] := va_S.rf
  have C0 : cxt cX6_spells (some .boolean) 3 RX6 wsX6_spells (dC, dI) (tyz cB cI cJ cZ) (E_X adK adV) A p s m ([.ref (a 3), .ref (adK 3)] : List Value).toArray meth c := ⟨hx, hb, hr, hml, hown, hts, hlocks, hK, hA, hE⟩
  have hl := lv_entry ([.ref (a 3), .ref (adK 3)]) (n := 3) (Nat.le_of_ble_eq_true rfl)
  rw [lg_entry_eq]
  generalize (lg_sl ([.ref (a 3), .ref (adK 3)]) ++ List.replicate (3 - (lg_sl ([.ref (a 3), .ref (adK 3)])).length) Slot.unset).toArray = ls at hl ⊢
  have hl : lv_has ls 3 [(0, .ref (a 3)), (1, .ref (adK 3))] := hl
  have hw0 := hts (.fieldLink RX6 32 "WhistledWords$TextReader" "at" "I") (by decide +kernel)
  have hw1 := hts (.fieldLink RX6 51 "WhistledWords$TextReader" "start" "I") (by decide +kernel)
  have hnX6 : ∀ w ∈ u_ws RX6 TX6 8, w ∈ wsX6_spells := fun _ h => List.mem_cons_of_mem _ (List.mem_append_left _ (List.mem_append_right _ h))
  unfold fX6_spells at h
  refine lv_aload_n hx hb dX6_spells_0 rfl (lv_at hl 0 rfl) ?_
  refine gX_reader_at hx hb hts hnX6 hown hK hP hw0 dX6_spells_1 ?_
  refine lv_aload_n hx hb dX6_spells_4 rfl (lv_at hl 0 rfl) ?_
  refine gX_reader_start hx hb hts hnX6 hown hK hP hw1 dX6_spells_5 ?_
  refine lv_isub hx hb dX6_spells_8 ?_
  refine lv_aload_n hx hb dX6_spells_9 rfl (lv_at hl 1 rfl) ?_
  refine cS_len (k := 3) (rest := [.int (rd_at - rd_start)]) (by decide) ⟨hx, hb, hml, hown, hts⟩ (cwV 0 hts gX6_spells_J0_length_8abf5 rfl rfl rfl (by decide +kernel) ⟨Nat.le_of_ble_eq_true rfl, Nat.le_of_ble_eq_true rfl⟩) hE.2.1 hP hS hl.1 rfl (Nat.le_of_ble_eq_true rfl) dX6_spells_10 ⟨Nat.zero_le _, Nat.zero_le _⟩ (fun H locs hP hS => ?_)
  refine lv_icmp_eq (tgt := 18) hx hb dX6_spells_13 (by decide) (fun c1 => ?_) (fun c1 => ?_)
  · have h := it_use c1 h
    refine lv_iconst (v := 0) hx hb dX6_spells_18 (by decide) ?_
    refine lv_istore_n (lv' := [(2, .int (0 : Int32)), (0, .ref (a 3)), (1, .ref (adK 3))]) hx hb dX6_spells_19 rfl hl (by decide) rfl (fun ls hl => ?_)
    exact kX6_spells_3_p20 dC dI cB cI cJ cZ a adK adV C0 n ww_latestFault tp_bytes tp_size rd_fault rd_faultPlace rd_kind rd_start rd_at rd_number dr_letterMarks dr_names dr_spelled dr_rows dr_alike dr_near dr_asks dr_letters dr_words dr_askCount sh_lanes sh_sizes sh_cells la_xs la_ys la_heights la_ridgeXs la_ridgeHeights la_way la_blurs la_steps la_places la_ridges la_wayBlur la_wayLength bk_times bk_froms bk_asks bk_words bk_firsts bk_lies bk_held bk_size nu_learned nu_size to_letterMarks to_names to_spelled to_rows to_alike to_near to_asks to_letters to_words to_askCount (0 : Int32) r0  n _ _ ls h hP hD hS (lv_sub hl [1, 2, 0] rfl)
  · have h := ie_use c1 h
    refine lv_iconst (v := 0) hx hb dX6_spells_16 (by decide) ?_
    obtain er := rt1_use h
    exact re_z hx hb hr hlocks hK hP hD hS (Or.inl rfl) er dX6_spells_17
set_option maxHeartbeats 4000000 in
set_option maxRecDepth 100000 in
theorem kX6_spells_4_p20_r {p : Program} {l : Launch} {e : Env} {s : State} {m : MethodId} {args : Array Value} {below : List Frame} {meth : Method} {c : Code} {A : Nat → Prop} (dC : Nat → ClassId) (dI : Nat → Nat → Nat) (cB cI cJ cZ : ClassId) (a : Nat → Nat) (adK adV : Nat → Nat) (C0 : cxt cX6_spells (some .boolean) 3 RX6 wsX6_spells (dC, dI) (tyz cB cI cJ cZ) (E_X adK adV) A p s m args meth c) (n : Nat) (ww_latestFault : Int32) (tp_bytes : Nat → Int32) (tp_size : Int32) (rd_fault : Int32) (rd_faultPlace : Int32) (rd_kind : Int32) (rd_start : Int32) (rd_at : Int32) (rd_number : Int32) (dr_letterMarks : Nat → Int32) (dr_names : Nat → Int64) (dr_spelled : Nat → Int32) (dr_rows : Nat → Int64) (dr_alike : Nat → Int32) (dr_near : Nat → Int32) (dr_asks : Nat → Int32) (dr_letters : Int32) (dr_words : Int32) (dr_askCount : Int32) (sh_lanes : Nat → Int32) (sh_sizes : Nat → Int32) (sh_cells : Nat → Int32) (la_xs : Nat → Int32) (la_ys : Nat → Int32) (la_heights : Nat → Int32) (la_ridgeXs : Nat → Int32) (la_ridgeHeights : Nat → Int32) (la_way : Nat → Int32) (la_blurs : Nat → Int32) (la_steps : Nat → Int32) (la_places : Int32) (la_ridges : Int32) (la_wayBlur : Int32) (la_wayLength : Int32) (bk_times : Nat → Int32) (bk_froms : Nat → Int32) (bk_asks : Nat → Int32) (bk_words : Nat → Int32) (bk_firsts : Nat → Int32) (bk_lies : Nat → Int32) (bk_held : Nat → Int32) (bk_size : Int32) (nu_learned : Nat → Int32) (nu_size : Int32) (to_letterMarks : Nat → Int32) (to_names : Nat → Int64) (to_spelled : Nat → Int32) (to_rows : Nat → Int64) (to_alike : Nat → Int32) (to_near : Nat → Int32) (to_asks : Nat → Int32) (to_letters : Int32) (to_words : Int32) (to_askCount : Int32)  (r0 : Int32)  : ∀ (k : Nat) (x2 : Int32) (H : Heap) (locs : List Loc) (ls : Array Slot), fX6_spells_p20 n tp_bytes rd_start (lenS 4) (chS 4) k x2 = some r0 → va_P (dC, dI) vwCl (wX cB cI cJ cZ a (a 35) (a 4) ww_latestFault tp_bytes tp_size rd_fault rd_faultPlace rd_kind rd_start rd_at rd_number dr_letterMarks dr_names dr_spelled dr_rows dr_alike dr_near dr_asks dr_letters dr_words dr_askCount sh_lanes sh_sizes sh_cells la_xs la_ys la_heights la_ridgeXs la_ridgeHeights la_way la_blurs la_steps la_places la_ridges la_wayBlur la_wayLength bk_times bk_froms bk_asks bk_words bk_firsts bk_lies bk_held bk_size nu_learned nu_size to_letterMarks to_names to_spelled to_rows to_alike to_near to_asks to_letters to_words to_askCount) H → va_D A (wX cB cI cJ cZ a (a 35) (a 4) ww_latestFault tp_bytes tp_size rd_fault rd_faultPlace rd_kind rd_start rd_at rd_number dr_letterMarks dr_names dr_spelled dr_rows dr_alike dr_near dr_asks dr_letters dr_words dr_askCount sh_lanes sh_sizes sh_cells la_xs la_ys la_heights la_ridgeXs la_ridgeHeights la_way la_blurs la_steps la_places la_ridges la_wayBlur la_wayLength bk_times bk_froms bk_asks bk_words bk_firsts bk_lies bk_held bk_size nu_learned nu_size to_letterMarks to_names to_spelled to_rows to_alike to_near to_asks to_letters to_words to_askCount) → va_S A s.heap H locs → lv_has ls 3 [(0, .ref (a 3)), (1, .ref (adK 4)), (2, .int x2)] → W p l e { frames := 4, cells := 0, slots := 0, locals := 85 } s m args below meth c H locs 0 0 (MQ below (gI (dC, dI) (tyz cB cI cJ cZ) (wX cB cI cJ cZ a (a 35) (a 4) ww_latestFault tp_bytes tp_size rd_fault rd_faultPlace rd_kind rd_start rd_at rd_number dr_letterMarks dr_names dr_spelled dr_rows dr_alike dr_near dr_asks dr_letters dr_words dr_askCount sh_lanes sh_sizes sh_cells la_xs la_ys la_heights la_ridgeXs la_ridgeHeights la_way la_blurs la_steps la_places la_ridges la_wayBlur la_wayLength bk_times bk_froms bk_asks bk_words bk_firsts bk_lies bk_held bk_size nu_learned nu_size to_letterMarks to_names to_spelled to_rows to_alike to_near to_asks to_letters to_words to_askCount) A r0) args s 0 0 A) (F0 m 20 ls []) := by
  obtain ⟨hx, hb, hr, hml, hown, hts, hlocks, hK, hA, hE⟩ := id C0
  have hw0 := hts (.fieldLink RX6 9 "WhistledWords$TextReader" "tape" "LWhistledWords$Tape;") (by decide +kernel)
  have hw1 := hts (.fieldLink RX6 146 "WhistledWords$Tape" "bytes" "[B") (by decide +kernel)
  have hw2 := hts (.fieldLink RX6 51 "WhistledWords$TextReader" "start" "I") (by decide +kernel)
  have hnX6 : ∀ w ∈ u_ws RX6 TX6 8, w ∈ wsX6_spells := fun _ h => List.mem_cons_of_mem _ (List.mem_append_left _ (List.mem_append_right _ h))
  have hnX5 : ∀ w ∈ u_ws RX5 TX5 2, w ∈ wsX6_spells := fun _ h => List.mem_cons_of_mem _ (List.mem_append_right _ h)
  intro k
  induction k with
  | zero =>
    intro x2 H locs ls h
    cases h
  | succ k ih =>
    intro x2 H locs ls h hP hD hS hl
    rw [fX6_spells_p20] at h
    refine lv_iload_n hx hb dX6_spells_20 rfl (lv_at hl 2 rfl) ?_
    refine lv_aload_n hx hb dX6_spells_21 rfl (lv_at hl 1 rfl) ?_
    refine cS_len (k := 4) (rest := [.int x2]) (by decide) ⟨hx, hb, hml, hown, hts⟩ (cwV 0 hts gX6_spells_J0_length_8abf5 rfl rfl rfl (by decide +kernel) ⟨Nat.le_of_ble_eq_true rfl, Nat.le_of_ble_eq_true rfl⟩) hE.2.1 hP hS hl.1 rfl (Nat.le_of_ble_eq_true rfl) dX6_spells_22 ⟨Nat.zero_le _, Nat.zero_le _⟩ (fun H locs hP hS => ?_)
    refine lv_icmp_ge (tgt := 58) hx hb dX6_spells_25 (by decide) (fun c1 => ?_) (fun c1 => ?_)
    · have h := it_use c1 h
      refine lv_iconst (v := 1) hx hb dX6_spells_58 (by decide) ?_
      obtain er := rt1_use h
      exact re_z hx hb hr hlocks hK hP hD hS (Or.inr rfl) er dX6_spells_59
    · have h := ie_use c1 h
      refine lv_aload_n hx hb dX6_spells_28 rfl (lv_at hl 0 rfl) ?_
      refine gX_reader_tape hx hb hts hnX6 hown hK hP hw0 dX6_spells_29 ?_
      refine gX_tape_bytes hx hb hts hnX5 hown hK hP hw1 dX6_spells_32 ?_
      refine lv_aload_n hx hb dX6_spells_35 rfl (lv_at hl 0 rfl) ?_
      refine gX_reader_start hx hb hts hnX6 hown hK hP hw2 dX6_spells_36 ?_
      refine lv_iload_n hx hb dX6_spells_39 rfl (lv_at hl 2 rfl) ?_
      refine lv_iadd hx hb dX6_spells_40 ?_
      obtain ⟨hiv2, h⟩ := ar_use h
      refine lX_tape_bytes hx hb hK hP hiv2 dX6_spells_41 ?_
      refine lv_topi (fun v2 ev2 => ?_)
      have h := h v2 ev2
      refine lv_aload_n hx hb dX6_spells_42 rfl (lv_at hl 1 rfl) ?_
      refine lv_iload_n hx hb dX6_spells_43 rfl (lv_at hl 2 rfl) ?_
      obtain ⟨hiv3, h⟩ := ar_use h
      refine cS_chr (k := 4) (rest := [.int v2]) (by decide) ⟨hx, hb, hml, hown, hts⟩ hiv3 (cwV 1 hts gX6_spells_J0_charAt_5068e rfl rfl rfl (by decide +kernel) ⟨Nat.le_of_ble_eq_true rfl, Nat.le_of_ble_eq_true rfl⟩) hE.2.1 hP hS hl.1 rfl (Nat.le_of_ble_eq_true rfl) dX6_spells_44 ⟨Nat.zero_le _, Nat.zero_le _⟩ (fun H locs hP hS => ?_)
      refine lv_topi (fun v3 ev3 => ?_)
      have h := h v3 ev3
      refine lv_icmp_eq (tgt := 52) hx hb dX6_spells_47 (by decide) (fun c4 => ?_) (fun c4 => ?_)
      · have h := it_use c4 h
        refine lv_iinc (v := x2 + 1) (lv' := [(2, .int (x2 + 1)), (0, .ref (a 3)), (1, .ref (adK 4))]) hx hb dX6_spells_52 hl (k := 2) rfl rfl (by decide) rfl (fun ls hl => ?_)
        refine lv_goto (tgt := 20) hx hb dX6_spells_55 (by decide) ?_
        exact ih (x2 + 1) _ _ ls h hP hD hS (lv_sub hl [1, 2, 0] rfl)
      · have h := ie_use c4 h
        refine lv_iconst (v := 0) hx hb dX6_spells_50 (by decide) ?_
        obtain er := rt1_use h
        exact re_z hx hb hr hlocks hK hP hD hS (Or.inl rfl) er dX6_spells_51
theorem kX6_spells_4_p20 {p : Program} {l : Launch} {e : Env} {s : State} {m : MethodId} {args : Array Value} {below : List Frame} {meth : Method} {c : Code} {A : Nat → Prop} (dC : Nat → ClassId) (dI : Nat → Nat → Nat) (cB cI cJ cZ : ClassId) (a : Nat → Nat) (adK adV : Nat → Nat) (C0 : cxt cX6_spells (some .boolean) 3 RX6 wsX6_spells (dC, dI) (tyz cB cI cJ cZ) (E_X adK adV) A p s m args meth c) (n : Nat) (ww_latestFault : Int32) (tp_bytes : Nat → Int32) (tp_size : Int32) (rd_fault : Int32) (rd_faultPlace : Int32) (rd_kind : Int32) (rd_start : Int32) (rd_at : Int32) (rd_number : Int32) (dr_letterMarks : Nat → Int32) (dr_names : Nat → Int64) (dr_spelled : Nat → Int32) (dr_rows : Nat → Int64) (dr_alike : Nat → Int32) (dr_near : Nat → Int32) (dr_asks : Nat → Int32) (dr_letters : Int32) (dr_words : Int32) (dr_askCount : Int32) (sh_lanes : Nat → Int32) (sh_sizes : Nat → Int32) (sh_cells : Nat → Int32) (la_xs : Nat → Int32) (la_ys : Nat → Int32) (la_heights : Nat → Int32) (la_ridgeXs : Nat → Int32) (la_ridgeHeights : Nat → Int32) (la_way : Nat → Int32) (la_blurs : Nat → Int32) (la_steps : Nat → Int32) (la_places : Int32) (la_ridges : Int32) (la_wayBlur : Int32) (la_wayLength : Int32) (bk_times : Nat → Int32) (bk_froms : Nat → Int32) (bk_asks : Nat → Int32) (bk_words : Nat → Int32) (bk_firsts : Nat → Int32) (bk_lies : Nat → Int32) (bk_held : Nat → Int32) (bk_size : Int32) (nu_learned : Nat → Int32) (nu_size : Int32) (to_letterMarks : Nat → Int32) (to_names : Nat → Int64) (to_spelled : Nat → Int32) (to_rows : Nat → Int64) (to_alike : Nat → Int32) (to_near : Nat → Int32) (to_asks : Nat → Int32) (to_letters : Int32) (to_words : Int32) (to_askCount : Int32)  (x2 : Int32) (r0 : Int32)  (k : Nat) (H : Heap) (locs : List Loc) (ls : Array Slot) : fX6_spells_p20 n tp_bytes rd_start (lenS 4) (chS 4) k x2 = some r0 → va_P (dC, dI) vwCl (wX cB cI cJ cZ a (a 35) (a 4) ww_latestFault tp_bytes tp_size rd_fault rd_faultPlace rd_kind rd_start rd_at rd_number dr_letterMarks dr_names dr_spelled dr_rows dr_alike dr_near dr_asks dr_letters dr_words dr_askCount sh_lanes sh_sizes sh_cells la_xs la_ys la_heights la_ridgeXs la_ridgeHeights la_way la_blurs la_steps la_places la_ridges la_wayBlur la_wayLength bk_times bk_froms bk_asks bk_words bk_firsts bk_lies bk_held bk_size nu_learned nu_size to_letterMarks to_names to_spelled to_rows to_alike to_near to_asks to_letters to_words to_askCount) H → va_D A (wX cB cI cJ cZ a (a 35) (a 4) ww_latestFault tp_bytes tp_size rd_fault rd_faultPlace rd_kind rd_start rd_at rd_number dr_letterMarks dr_names dr_spelled dr_rows dr_alike dr_near dr_asks dr_letters dr_words dr_askCount sh_lanes sh_sizes sh_cells la_xs la_ys la_heights la_ridgeXs la_ridgeHeights la_way la_blurs la_steps la_places la_ridges la_wayBlur la_wayLength bk_times bk_froms bk_asks bk_words bk_firsts bk_lies bk_held bk_size nu_learned nu_size to_letterMarks to_names to_spelled to_rows to_alike to_near to_asks to_letters to_words to_askCount) → va_S A s.heap H locs → lv_has ls 3 [(0, .ref (a 3)), (1, .ref (adK 4)), (2, .int x2)] → W p l e { frames := 4, cells := 0, slots := 0, locals := 85 } s m args below meth c H locs 0 0 (MQ below (gI (dC, dI) (tyz cB cI cJ cZ) (wX cB cI cJ cZ a (a 35) (a 4) ww_latestFault tp_bytes tp_size rd_fault rd_faultPlace rd_kind rd_start rd_at rd_number dr_letterMarks dr_names dr_spelled dr_rows dr_alike dr_near dr_asks dr_letters dr_words dr_askCount sh_lanes sh_sizes sh_cells la_xs la_ys la_heights la_ridgeXs la_ridgeHeights la_way la_blurs la_steps la_places la_ridges la_wayBlur la_wayLength bk_times bk_froms bk_asks bk_words bk_firsts bk_lies bk_held bk_size nu_learned nu_size to_letterMarks to_names to_spelled to_rows to_alike to_near to_asks to_letters to_words to_askCount) A r0) args s 0 0 A) (F0 m 20 ls []) :=
  kX6_spells_4_p20_r dC dI cB cI cJ cZ a adK adV C0 n ww_latestFault tp_bytes tp_size rd_fault rd_faultPlace rd_kind rd_start rd_at rd_number dr_letterMarks dr_names dr_spelled dr_rows dr_alike dr_near dr_asks dr_letters dr_words dr_askCount sh_lanes sh_sizes sh_cells la_xs la_ys la_heights la_ridgeXs la_ridgeHeights la_way la_blurs la_steps la_places la_ridges la_wayBlur la_wayLength bk_times bk_froms bk_asks bk_words bk_firsts bk_lies bk_held bk_size nu_learned nu_size to_letterMarks to_names to_spelled to_rows to_alike to_near to_asks to_letters to_words to_askCount  r0  k x2 H locs ls
set_option maxHeartbeats 4000000 in
set_option maxRecDepth 100000 in
theorem kX6_spells_4 (l : Launch) (n : Nat) (dC : Nat → ClassId) (dI : Nat → Nat → Nat) (cB cI cJ cZ : ClassId) (a : Nat → Nat) (adK adV : Nat → Nat) (sz : Nat) (ww_latestFault : Int32) (tp_bytes : Nat → Int32) (tp_size : Int32) (rd_fault : Int32) (rd_faultPlace : Int32) (rd_kind : Int32) (rd_start : Int32) (rd_at : Int32) (rd_number : Int32) (dr_letterMarks : Nat → Int32) (dr_names : Nat → Int64) (dr_spelled : Nat → Int32) (dr_rows : Nat → Int64) (dr_alike : Nat → Int32) (dr_near : Nat → Int32) (dr_asks : Nat → Int32) (dr_letters : Int32) (dr_words : Int32) (dr_askCount : Int32) (sh_lanes : Nat → Int32) (sh_sizes : Nat → Int32) (sh_cells : Nat → Int32) (la_xs : Nat → Int32) (la_ys : Nat → Int32) (la_heights : Nat → Int32) (la_ridgeXs : Nat → Int32) (la_ridgeHeights : Nat → Int32) (la_way : Nat → Int32) (la_blurs : Nat → Int32) (la_steps : Nat → Int32) (la_places : Int32) (la_ridges : Int32) (la_wayBlur : Int32) (la_wayLength : Int32) (bk_times : Nat → Int32) (bk_froms : Nat → Int32) (bk_asks : Nat → Int32) (bk_words : Nat → Int32) (bk_firsts : Nat → Int32) (bk_lies : Nat → Int32) (bk_held : Nat → Int32) (bk_size : Int32) (nu_learned : Nat → Int32) (nu_size : Int32) (to_letterMarks : Nat → Int32) (to_names : Nat → Int64) (to_spelled : Nat → Int32) (to_rows : Nat → Int64) (to_alike : Nat → Int32) (to_near : Nat → Int32) (to_asks : Nat → Int32) (to_letters : Int32) (to_words : Int32) (to_askCount : Int32)  (r0 : Int32) (h : fX6_spells n tp_bytes rd_start rd_at  (lenS 4) (chS 4) = some r0) : Met l yX6_spells wsX6_spells ({ frames := 4, cells := 0, slots := 0, locals := 85 }) (gP (dC, dI) (tyz cB cI cJ cZ) (E_X adK adV) (wX cB cI cJ cZ a (a 35) (a 4) ww_latestFault tp_bytes tp_size rd_fault rd_faultPlace rd_kind rd_start rd_at rd_number dr_letterMarks dr_names dr_spelled dr_rows dr_alike dr_near dr_asks dr_letters dr_words dr_askCount sh_lanes sh_sizes sh_cells la_xs la_ys la_heights la_ridgeXs la_ridgeHeights la_way la_blurs la_steps la_places la_ridges la_wayBlur la_wayLength bk_times bk_froms bk_asks bk_words bk_firsts bk_lies bk_held bk_size nu_learned nu_size to_letterMarks to_names to_spelled to_rows to_alike to_near to_asks to_letters to_words to_askCount) sz [.ref (a 3), .ref (adK 4)]) (gI (dC, dI) (tyz cB cI cJ cZ) (wX cB cI cJ cZ a (a 35) (a 4) ww_latestFault tp_bytes tp_size rd_fault rd_faultPlace rd_kind rd_start rd_at rd_number dr_letterMarks dr_names dr_spelled dr_rows dr_alike dr_near dr_asks dr_letters dr_words dr_askCount sh_lanes sh_sizes sh_cells la_xs la_ys la_heights la_ridgeXs la_ridgeHeights la_way la_blurs la_steps la_places la_ridges la_wayBlur la_wayLength bk_times bk_froms bk_asks bk_words bk_firsts bk_lies bk_held bk_size nu_learned nu_size to_letterMarks to_names to_spelled to_rows to_alike to_near to_asks to_letters to_words to_askCount) (va_A (wX cB cI cJ cZ a (a 35) (a 4) ww_latestFault tp_bytes tp_size rd_fault rd_faultPlace rd_kind rd_start rd_at rd_number dr_letterMarks dr_names dr_spelled dr_rows dr_alike dr_near dr_asks dr_letters dr_words dr_askCount sh_lanes sh_sizes sh_cells la_xs la_ys la_heights la_ridgeXs la_ridgeHeights la_way la_blurs la_steps la_places la_ridges la_wayBlur la_wayLength bk_times bk_froms bk_asks bk_words bk_firsts bk_lies bk_held bk_size nu_learned nu_size to_letterMarks to_names to_spelled to_rows to_alike to_near to_asks to_letters to_words to_askCount) sz) r0) 0 0 (va_A (wX cB cI cJ cZ a (a 35) (a 4) ww_latestFault tp_bytes tp_size rd_fault rd_faultPlace rd_kind rd_start rd_at rd_number dr_letterMarks dr_names dr_spelled dr_rows dr_alike dr_near dr_asks dr_letters dr_words dr_askCount sh_lanes sh_sizes sh_cells la_xs la_ys la_heights la_ridgeXs la_ridgeHeights la_way la_blurs la_steps la_places la_ridges la_wayBlur la_wayLength bk_times bk_froms bk_asks bk_words bk_firsts bk_lies bk_held bk_size nu_learned nu_size to_letterMarks to_names to_spelled to_rows to_alike to_near to_asks to_letters to_words to_askCount) sz) := by
  refine Met.ofW (cc := cX6_spells) (maxL := 3) (ret := (some .boolean)) (by decide) rfl ?_
  intro p e s m args below meth c s₁ B hml hv
  obtain ⟨rfl, hsz, hP, hK, hD0, hE⟩ := hv
  have hx := B.exec
  have hb := B.bytes
  have hr := B.returns
  have hts := atoms_spec (ws := wsX6_spells) B.pre
  have hown : s.vm.findClass RX6 = some m.cls := findClass_of_methodNamed B.named
  have hlocks := B.notSynchronized
  subst hsz
  have hD := hD0.self (sz := s.heap.size)
  have hA : ∀ q : Nat, s.heap.size ≤ q → va_A (wX cB cI cJ cZ a (a 35) (a 4) ww_latestFault tp_bytes tp_size rd_fault rd_faultPlace rd_kind rd_start rd_at rd_number dr_letterMarks dr_names dr_spelled dr_rows dr_alike dr_near dr_asks dr_letters dr_words dr_askCount sh_lanes sh_sizes sh_cells la_xs la_ys la_heights la_ridgeXs la_ridgeHeights la_way la_blurs la_steps la_places la_ridges la_wayBlur la_wayLength bk_times bk_froms bk_asks bk_words bk_firsts bk_lies bk_held bk_size nu_learned nu_size to_letterMarks to_names to_spelled to_rows to_alike to_near to_asks to_letters to_words to_askCount) s.heap.size q := fun q h => Or.inr h
  generalize va_A (wX cB cI cJ cZ a (a 35) (a 4) ww_latestFault tp_bytes tp_size rd_fault rd_faultPlace rd_kind rd_start rd_at rd_number dr_letterMarks dr_names dr_spelled dr_rows dr_alike dr_near dr_asks dr_letters dr_words dr_askCount sh_lanes sh_sizes sh_cells la_xs la_ys la_heights la_ridgeXs la_ridgeHeights la_way la_blurs la_steps la_places la_ridges la_wayBlur la_wayLength bk_times bk_froms bk_asks bk_words bk_firsts bk_lies bk_held bk_size nu_learned nu_size to_letterMarks to_names to_spelled to_rows to_alike to_near to_asks to_letters to_words to_askCount) s.heap.size = A at hD hA hE ⊢
  have hS : va_S A s.heap s.heap [] := va_S.rf
  have C0 : cxt cX6_spells (some .boolean) 3 RX6 wsX6_spells (dC, dI) (tyz cB cI cJ cZ) (E_X adK adV) A p s m ([.ref (a 3), .ref (adK 4)] : List Value).toArray meth c := ⟨hx, hb, hr, hml, hown, hts, hlocks, hK, hA, hE⟩
  have hl := lv_entry ([.ref (a 3), .ref (adK 4)]) (n := 3) (Nat.le_of_ble_eq_true rfl)
  rw [lg_entry_eq]
  generalize (lg_sl ([.ref (a 3), .ref (adK 4)]) ++ List.replicate (3 - (lg_sl ([.ref (a 3), .ref (adK 4)])).length) Slot.unset).toArray = ls at hl ⊢
  have hl : lv_has ls 3 [(0, .ref (a 3)), (1, .ref (adK 4))] := hl
  have hw0 := hts (.fieldLink RX6 32 "WhistledWords$TextReader" "at" "I") (by decide +kernel)
  have hw1 := hts (.fieldLink RX6 51 "WhistledWords$TextReader" "start" "I") (by decide +kernel)
  have hnX6 : ∀ w ∈ u_ws RX6 TX6 8, w ∈ wsX6_spells := fun _ h => List.mem_cons_of_mem _ (List.mem_append_left _ (List.mem_append_right _ h))
  unfold fX6_spells at h
  refine lv_aload_n hx hb dX6_spells_0 rfl (lv_at hl 0 rfl) ?_
  refine gX_reader_at hx hb hts hnX6 hown hK hP hw0 dX6_spells_1 ?_
  refine lv_aload_n hx hb dX6_spells_4 rfl (lv_at hl 0 rfl) ?_
  refine gX_reader_start hx hb hts hnX6 hown hK hP hw1 dX6_spells_5 ?_
  refine lv_isub hx hb dX6_spells_8 ?_
  refine lv_aload_n hx hb dX6_spells_9 rfl (lv_at hl 1 rfl) ?_
  refine cS_len (k := 4) (rest := [.int (rd_at - rd_start)]) (by decide) ⟨hx, hb, hml, hown, hts⟩ (cwV 0 hts gX6_spells_J0_length_8abf5 rfl rfl rfl (by decide +kernel) ⟨Nat.le_of_ble_eq_true rfl, Nat.le_of_ble_eq_true rfl⟩) hE.2.1 hP hS hl.1 rfl (Nat.le_of_ble_eq_true rfl) dX6_spells_10 ⟨Nat.zero_le _, Nat.zero_le _⟩ (fun H locs hP hS => ?_)
  refine lv_icmp_eq (tgt := 18) hx hb dX6_spells_13 (by decide) (fun c1 => ?_) (fun c1 => ?_)
  · have h := it_use c1 h
    refine lv_iconst (v := 0) hx hb dX6_spells_18 (by decide) ?_
    refine lv_istore_n (lv' := [(2, .int (0 : Int32)), (0, .ref (a 3)), (1, .ref (adK 4))]) hx hb dX6_spells_19 rfl hl (by decide) rfl (fun ls hl => ?_)
    exact kX6_spells_4_p20 dC dI cB cI cJ cZ a adK adV C0 n ww_latestFault tp_bytes tp_size rd_fault rd_faultPlace rd_kind rd_start rd_at rd_number dr_letterMarks dr_names dr_spelled dr_rows dr_alike dr_near dr_asks dr_letters dr_words dr_askCount sh_lanes sh_sizes sh_cells la_xs la_ys la_heights la_ridgeXs la_ridgeHeights la_way la_blurs la_steps la_places la_ridges la_wayBlur la_wayLength bk_times bk_froms bk_asks bk_words bk_firsts bk_lies bk_held bk_size nu_learned nu_size to_letterMarks to_names to_spelled to_rows to_alike to_near to_asks to_letters to_words to_askCount (0 : Int32) r0  n _ _ ls h hP hD hS (lv_sub hl [1, 2, 0] rfl)
  · have h := ie_use c1 h
    refine lv_iconst (v := 0) hx hb dX6_spells_16 (by decide) ?_
    obtain er := rt1_use h
    exact re_z hx hb hr hlocks hK hP hD hS (Or.inl rfl) er dX6_spells_17
set_option maxHeartbeats 4000000 in
set_option maxRecDepth 100000 in
theorem kX6_allLettersTold_p5_r {p : Program} {l : Launch} {e : Env} {s : State} {m : MethodId} {args : Array Value} {below : List Frame} {meth : Method} {c : Code} {A : Nat → Prop} (dC : Nat → ClassId) (dI : Nat → Nat → Nat) (cB cI cJ cZ : ClassId) (a : Nat → Nat) (adK adV : Nat → Nat) (C0 : cxt cX6_allLettersTold (some .boolean) 2 RX6 wsX6_allLettersTold (dC, dI) (tyz cB cI cJ cZ) (E_X adK adV) A p s m args meth c) (n : Nat) (ww_latestFault : Int32) (tp_bytes : Nat → Int32) (tp_size : Int32) (rd_fault : Int32) (rd_faultPlace : Int32) (rd_kind : Int32) (rd_start : Int32) (rd_at : Int32) (rd_number : Int32) (dr_letterMarks : Nat → Int32) (dr_names : Nat → Int64) (dr_spelled : Nat → Int32) (dr_rows : Nat → Int64) (dr_alike : Nat → Int32) (dr_near : Nat → Int32) (dr_asks : Nat → Int32) (dr_letters : Int32) (dr_words : Int32) (dr_askCount : Int32) (sh_lanes : Nat → Int32) (sh_sizes : Nat → Int32) (sh_cells : Nat → Int32) (la_xs : Nat → Int32) (la_ys : Nat → Int32) (la_heights : Nat → Int32) (la_ridgeXs : Nat → Int32) (la_ridgeHeights : Nat → Int32) (la_way : Nat → Int32) (la_blurs : Nat → Int32) (la_steps : Nat → Int32) (la_places : Int32) (la_ridges : Int32) (la_wayBlur : Int32) (la_wayLength : Int32) (bk_times : Nat → Int32) (bk_froms : Nat → Int32) (bk_asks : Nat → Int32) (bk_words : Nat → Int32) (bk_firsts : Nat → Int32) (bk_lies : Nat → Int32) (bk_held : Nat → Int32) (bk_size : Int32) (nu_learned : Nat → Int32) (nu_size : Int32) (to_letterMarks : Nat → Int32) (to_names : Nat → Int64) (to_spelled : Nat → Int32) (to_rows : Nat → Int64) (to_alike : Nat → Int32) (to_near : Nat → Int32) (to_asks : Nat → Int32) (to_letters : Int32) (to_words : Int32) (to_askCount : Int32)  (r0 : Int32)  : ∀ (k : Nat) (x1 : Int32) (H : Heap) (locs : List Loc) (ls : Array Slot), fX6_allLettersTold_p5 n tp_bytes rd_at dr_letterMarks k x1 = some r0 → va_P (dC, dI) vwCl (wX cB cI cJ cZ a (a 35) (a 4) ww_latestFault tp_bytes tp_size rd_fault rd_faultPlace rd_kind rd_start rd_at rd_number dr_letterMarks dr_names dr_spelled dr_rows dr_alike dr_near dr_asks dr_letters dr_words dr_askCount sh_lanes sh_sizes sh_cells la_xs la_ys la_heights la_ridgeXs la_ridgeHeights la_way la_blurs la_steps la_places la_ridges la_wayBlur la_wayLength bk_times bk_froms bk_asks bk_words bk_firsts bk_lies bk_held bk_size nu_learned nu_size to_letterMarks to_names to_spelled to_rows to_alike to_near to_asks to_letters to_words to_askCount) H → va_D A (wX cB cI cJ cZ a (a 35) (a 4) ww_latestFault tp_bytes tp_size rd_fault rd_faultPlace rd_kind rd_start rd_at rd_number dr_letterMarks dr_names dr_spelled dr_rows dr_alike dr_near dr_asks dr_letters dr_words dr_askCount sh_lanes sh_sizes sh_cells la_xs la_ys la_heights la_ridgeXs la_ridgeHeights la_way la_blurs la_steps la_places la_ridges la_wayBlur la_wayLength bk_times bk_froms bk_asks bk_words bk_firsts bk_lies bk_held bk_size nu_learned nu_size to_letterMarks to_names to_spelled to_rows to_alike to_near to_asks to_letters to_words to_askCount) → va_S A s.heap H locs → lv_has ls 2 [(0, .ref (a 3)), (1, .int x1)] → W p l e { frames := 1, cells := 0, slots := 0, locals := 21 } s m args below meth c H locs 0 0 (MQ below (gI (dC, dI) (tyz cB cI cJ cZ) (wX cB cI cJ cZ a (a 35) (a 4) ww_latestFault tp_bytes tp_size rd_fault rd_faultPlace rd_kind rd_start rd_at rd_number dr_letterMarks dr_names dr_spelled dr_rows dr_alike dr_near dr_asks dr_letters dr_words dr_askCount sh_lanes sh_sizes sh_cells la_xs la_ys la_heights la_ridgeXs la_ridgeHeights la_way la_blurs la_steps la_places la_ridges la_wayBlur la_wayLength bk_times bk_froms bk_asks bk_words bk_firsts bk_lies bk_held bk_size nu_learned nu_size to_letterMarks to_names to_spelled to_rows to_alike to_near to_asks to_letters to_words to_askCount) A r0) args s 0 0 A) (F0 m 5 ls []) := by
  obtain ⟨hx, hb, hr, hml, hown, hts, hlocks, hK, hA, hE⟩ := id C0
  have hw0 := hts (.fieldLink RX6 32 "WhistledWords$TextReader" "at" "I") (by decide +kernel)
  have hw1 := hts (.fieldLink RX6 18 "WhistledWords$TextReader" "draft" "LWhistledWords$Tongue;") (by decide +kernel)
  have hw2 := hts (.fieldLink RX6 102 "WhistledWords$Tongue" "letterMarks" "[I") (by decide +kernel)
  have hnX6 : ∀ w ∈ u_ws RX6 TX6 8, w ∈ wsX6_allLettersTold := fun _ h => List.mem_cons_of_mem _ (List.mem_append_left _ (List.mem_append_left _ (List.mem_append_right _ h)))
  have hnX7 : ∀ w ∈ u_ws RX7 TX7 10, w ∈ wsX6_allLettersTold := fun _ h => List.mem_cons_of_mem _ (List.mem_append_left _ (List.mem_append_right _ h))
  intro k
  induction k with
  | zero =>
    intro x1 H locs ls h
    cases h
  | succ k ih =>
    intro x1 H locs ls h hP hD hS hl
    rw [fX6_allLettersTold_p5] at h
    refine lv_iload_n hx hb dX6_allLettersTold_5 rfl (lv_at hl 1 rfl) ?_
    refine lv_aload_n hx hb dX6_allLettersTold_6 rfl (lv_at hl 0 rfl) ?_
    refine gX_reader_at hx hb hts hnX6 hown hK hP hw0 dX6_allLettersTold_7 ?_
    refine lv_icmp_ge (tgt := 38) hx hb dX6_allLettersTold_10 (by decide) (fun c1 => ?_) (fun c1 => ?_)
    · have h := it_use c1 h
      refine lv_iconst (v := 1) hx hb dX6_allLettersTold_38 (by decide) ?_
      obtain er := rt1_use h
      exact re_z hx hb hr hlocks hK hP hD hS (Or.inr rfl) er dX6_allLettersTold_39
    · have h := ie_use c1 h
      refine lv_aload_n hx hb dX6_allLettersTold_13 rfl (lv_at hl 0 rfl) ?_
      refine gX_reader_draft hx hb hts hnX6 hown hK hP hw1 dX6_allLettersTold_14 ?_
      refine gX_draft_letterMarks hx hb hts hnX7 hown hK hP hw2 dX6_allLettersTold_17 ?_
      refine lv_aload_n hx hb dX6_allLettersTold_20 rfl (lv_at hl 0 rfl) ?_
      refine lv_iload_n hx hb dX6_allLettersTold_21 rfl (lv_at hl 1 rfl) ?_
      obtain ⟨v2, hc, h⟩ := bd1_use h
      refine cv_i (As := [.int x1]) (rest := [.ref (a 5)]) ⟨hx, hb, hml, hown, hts⟩ (kX6_letterAt l n dC dI cB cI cJ cZ a adK adV _ ww_latestFault tp_bytes tp_size rd_fault rd_faultPlace rd_kind rd_start rd_at rd_number dr_letterMarks dr_names dr_spelled dr_rows dr_alike dr_near dr_asks dr_letters dr_words dr_askCount sh_lanes sh_sizes sh_cells la_xs la_ys la_heights la_ridgeXs la_ridgeHeights la_way la_blurs la_steps la_places la_ridges la_wayBlur la_wayLength bk_times bk_froms bk_asks bk_words bk_firsts bk_lies bk_held bk_size nu_learned nu_size to_letterMarks to_names to_spelled to_rows to_alike to_near to_asks to_letters to_words to_askCount x1 v2 hc) (cwV 1 hts gX6_allLettersTold_X6_letterAt rfl rfl rfl (by decide +kernel) ⟨Nat.le_of_ble_eq_true rfl, Nat.le_of_ble_eq_true rfl⟩) EB_X hE hK hP hD hS hA 3 (ci := 5) rfl rfl rfl rfl hl.1 rfl (Nat.le_of_ble_eq_true rfl) dX6_allLettersTold_22 ⟨Nat.zero_le _, Nat.zero_le _⟩ (fun H locs hP hD hS => ?_)
      obtain ⟨hiv3, h⟩ := ar_use h
      refine lX_draft_letterMarks hx hb hK hP hiv3 dX6_allLettersTold_25 ?_
      refine lv_topi (fun v3 ev3 => ?_)
      have h := h v3 ev3
      refine lv_iconst (v := -1) hx hb dX6_allLettersTold_26 (by decide) ?_
      refine lv_icmp_ne (tgt := 32) hx hb dX6_allLettersTold_27 (by decide) (fun c4 => ?_) (fun c4 => ?_)
      · have h := ie_use c4 h
        refine lv_iinc (v := x1 + 1) (lv' := [(1, .int (x1 + 1)), (0, .ref (a 3))]) hx hb dX6_allLettersTold_32 hl (k := 1) rfl rfl (by decide) rfl (fun ls hl => ?_)
        refine lv_goto (tgt := 5) hx hb dX6_allLettersTold_35 (by decide) ?_
        exact ih (x1 + 1) _ _ ls h hP hD hS (lv_sub hl [1, 0] rfl)
      · have h := it_use c4 h
        refine lv_iconst (v := 0) hx hb dX6_allLettersTold_30 (by decide) ?_
        obtain er := rt1_use h
        exact re_z hx hb hr hlocks hK hP hD hS (Or.inl rfl) er dX6_allLettersTold_31
theorem kX6_allLettersTold_p5 {p : Program} {l : Launch} {e : Env} {s : State} {m : MethodId} {args : Array Value} {below : List Frame} {meth : Method} {c : Code} {A : Nat → Prop} (dC : Nat → ClassId) (dI : Nat → Nat → Nat) (cB cI cJ cZ : ClassId) (a : Nat → Nat) (adK adV : Nat → Nat) (C0 : cxt cX6_allLettersTold (some .boolean) 2 RX6 wsX6_allLettersTold (dC, dI) (tyz cB cI cJ cZ) (E_X adK adV) A p s m args meth c) (n : Nat) (ww_latestFault : Int32) (tp_bytes : Nat → Int32) (tp_size : Int32) (rd_fault : Int32) (rd_faultPlace : Int32) (rd_kind : Int32) (rd_start : Int32) (rd_at : Int32) (rd_number : Int32) (dr_letterMarks : Nat → Int32) (dr_names : Nat → Int64) (dr_spelled : Nat → Int32) (dr_rows : Nat → Int64) (dr_alike : Nat → Int32) (dr_near : Nat → Int32) (dr_asks : Nat → Int32) (dr_letters : Int32) (dr_words : Int32) (dr_askCount : Int32) (sh_lanes : Nat → Int32) (sh_sizes : Nat → Int32) (sh_cells : Nat → Int32) (la_xs : Nat → Int32) (la_ys : Nat → Int32) (la_heights : Nat → Int32) (la_ridgeXs : Nat → Int32) (la_ridgeHeights : Nat → Int32) (la_way : Nat → Int32) (la_blurs : Nat → Int32) (la_steps : Nat → Int32) (la_places : Int32) (la_ridges : Int32) (la_wayBlur : Int32) (la_wayLength : Int32) (bk_times : Nat → Int32) (bk_froms : Nat → Int32) (bk_asks : Nat → Int32) (bk_words : Nat → Int32) (bk_firsts : Nat → Int32) (bk_lies : Nat → Int32) (bk_held : Nat → Int32) (bk_size : Int32) (nu_learned : Nat → Int32) (nu_size : Int32) (to_letterMarks : Nat → Int32) (to_names : Nat → Int64) (to_spelled : Nat → Int32) (to_rows : Nat → Int64) (to_alike : Nat → Int32) (to_near : Nat → Int32) (to_asks : Nat → Int32) (to_letters : Int32) (to_words : Int32) (to_askCount : Int32)  (x1 : Int32) (r0 : Int32)  (k : Nat) (H : Heap) (locs : List Loc) (ls : Array Slot) : fX6_allLettersTold_p5 n tp_bytes rd_at dr_letterMarks k x1 = some r0 → va_P (dC, dI) vwCl (wX cB cI cJ cZ a (a 35) (a 4) ww_latestFault tp_bytes tp_size rd_fault rd_faultPlace rd_kind rd_start rd_at rd_number dr_letterMarks dr_names dr_spelled dr_rows dr_alike dr_near dr_asks dr_letters dr_words dr_askCount sh_lanes sh_sizes sh_cells la_xs la_ys la_heights la_ridgeXs la_ridgeHeights la_way la_blurs la_steps la_places la_ridges la_wayBlur la_wayLength bk_times bk_froms bk_asks bk_words bk_firsts bk_lies bk_held bk_size nu_learned nu_size to_letterMarks to_names to_spelled to_rows to_alike to_near to_asks to_letters to_words to_askCount) H → va_D A (wX cB cI cJ cZ a (a 35) (a 4) ww_latestFault tp_bytes tp_size rd_fault rd_faultPlace rd_kind rd_start rd_at rd_number dr_letterMarks dr_names dr_spelled dr_rows dr_alike dr_near dr_asks dr_letters dr_words dr_askCount sh_lanes sh_sizes sh_cells la_xs la_ys la_heights la_ridgeXs la_ridgeHeights la_way la_blurs la_steps la_places la_ridges la_wayBlur la_wayLength bk_times bk_froms bk_asks bk_words bk_firsts bk_lies bk_held bk_size nu_learned nu_size to_letterMarks to_names to_spelled to_rows to_alike to_near to_asks to_letters to_words to_askCount) → va_S A s.heap H locs → lv_has ls 2 [(0, .ref (a 3)), (1, .int x1)] → W p l e { frames := 1, cells := 0, slots := 0, locals := 21 } s m args below meth c H locs 0 0 (MQ below (gI (dC, dI) (tyz cB cI cJ cZ) (wX cB cI cJ cZ a (a 35) (a 4) ww_latestFault tp_bytes tp_size rd_fault rd_faultPlace rd_kind rd_start rd_at rd_number dr_letterMarks dr_names dr_spelled dr_rows dr_alike dr_near dr_asks dr_letters dr_words dr_askCount sh_lanes sh_sizes sh_cells la_xs la_ys la_heights la_ridgeXs la_ridgeHeights la_way la_blurs la_steps la_places la_ridges la_wayBlur la_wayLength bk_times bk_froms bk_asks bk_words bk_firsts bk_lies bk_held bk_size nu_learned nu_size to_letterMarks to_names to_spelled to_rows to_alike to_near to_asks to_letters to_words to_askCount) A r0) args s 0 0 A) (F0 m 5 ls []) :=
  kX6_allLettersTold_p5_r dC dI cB cI cJ cZ a adK adV C0 n ww_latestFault tp_bytes tp_size rd_fault rd_faultPlace rd_kind rd_start rd_at rd_number dr_letterMarks dr_names dr_spelled dr_rows dr_alike dr_near dr_asks dr_letters dr_words dr_askCount sh_lanes sh_sizes sh_cells la_xs la_ys la_heights la_ridgeXs la_ridgeHeights la_way la_blurs la_steps la_places la_ridges la_wayBlur la_wayLength bk_times bk_froms bk_asks bk_words bk_firsts bk_lies bk_held bk_size nu_learned nu_size to_letterMarks to_names to_spelled to_rows to_alike to_near to_asks to_letters to_words to_askCount  r0  k x1 H locs ls
set_option maxHeartbeats 4000000 in
set_option maxRecDepth 100000 in
theorem kX6_allLettersTold (l : Launch) (n : Nat) (dC : Nat → ClassId) (dI : Nat → Nat → Nat) (cB cI cJ cZ : ClassId) (a : Nat → Nat) (adK adV : Nat → Nat) (sz : Nat) (ww_latestFault : Int32) (tp_bytes : Nat → Int32) (tp_size : Int32) (rd_fault : Int32) (rd_faultPlace : Int32) (rd_kind : Int32) (rd_start : Int32) (rd_at : Int32) (rd_number : Int32) (dr_letterMarks : Nat → Int32) (dr_names : Nat → Int64) (dr_spelled : Nat → Int32) (dr_rows : Nat → Int64) (dr_alike : Nat → Int32) (dr_near : Nat → Int32) (dr_asks : Nat → Int32) (dr_letters : Int32) (dr_words : Int32) (dr_askCount : Int32) (sh_lanes : Nat → Int32) (sh_sizes : Nat → Int32) (sh_cells : Nat → Int32) (la_xs : Nat → Int32) (la_ys : Nat → Int32) (la_heights : Nat → Int32) (la_ridgeXs : Nat → Int32) (la_ridgeHeights : Nat → Int32) (la_way : Nat → Int32) (la_blurs : Nat → Int32) (la_steps : Nat → Int32) (la_places : Int32) (la_ridges : Int32) (la_wayBlur : Int32) (la_wayLength : Int32) (bk_times : Nat → Int32) (bk_froms : Nat → Int32) (bk_asks : Nat → Int32) (bk_words : Nat → Int32) (bk_firsts : Nat → Int32) (bk_lies : Nat → Int32) (bk_held : Nat → Int32) (bk_size : Int32) (nu_learned : Nat → Int32) (nu_size : Int32) (to_letterMarks : Nat → Int32) (to_names : Nat → Int64) (to_spelled : Nat → Int32) (to_rows : Nat → Int64) (to_alike : Nat → Int32) (to_near : Nat → Int32) (to_asks : Nat → Int32) (to_letters : Int32) (to_words : Int32) (to_askCount : Int32)  (r0 : Int32) (h : fX6_allLettersTold n tp_bytes rd_start rd_at dr_letterMarks = some r0) : Met l yX6_allLettersTold wsX6_allLettersTold ({ frames := 1, cells := 0, slots := 0, locals := 21 }) (gP (dC, dI) (tyz cB cI cJ cZ) (E_X adK adV) (wX cB cI cJ cZ a (a 35) (a 4) ww_latestFault tp_bytes tp_size rd_fault rd_faultPlace rd_kind rd_start rd_at rd_number dr_letterMarks dr_names dr_spelled dr_rows dr_alike dr_near dr_asks dr_letters dr_words dr_askCount sh_lanes sh_sizes sh_cells la_xs la_ys la_heights la_ridgeXs la_ridgeHeights la_way la_blurs la_steps la_places la_ridges la_wayBlur la_wayLength bk_times bk_froms bk_asks bk_words bk_firsts bk_lies bk_held bk_size nu_learned nu_size to_letterMarks to_names to_spelled to_rows to_alike to_near to_asks to_letters to_words to_askCount) sz [.ref (a 3)]) (gI (dC, dI) (tyz cB cI cJ cZ) (wX cB cI cJ cZ a (a 35) (a 4) ww_latestFault tp_bytes tp_size rd_fault rd_faultPlace rd_kind rd_start rd_at rd_number dr_letterMarks dr_names dr_spelled dr_rows dr_alike dr_near dr_asks dr_letters dr_words dr_askCount sh_lanes sh_sizes sh_cells la_xs la_ys la_heights la_ridgeXs la_ridgeHeights la_way la_blurs la_steps la_places la_ridges la_wayBlur la_wayLength bk_times bk_froms bk_asks bk_words bk_firsts bk_lies bk_held bk_size nu_learned nu_size to_letterMarks to_names to_spelled to_rows to_alike to_near to_asks to_letters to_words to_askCount) (va_A (wX cB cI cJ cZ a (a 35) (a 4) ww_latestFault tp_bytes tp_size rd_fault rd_faultPlace rd_kind rd_start rd_at rd_number dr_letterMarks dr_names dr_spelled dr_rows dr_alike dr_near dr_asks dr_letters dr_words dr_askCount sh_lanes sh_sizes sh_cells la_xs la_ys la_heights la_ridgeXs la_ridgeHeights la_way la_blurs la_steps la_places la_ridges la_wayBlur la_wayLength bk_times bk_froms bk_asks bk_words bk_firsts bk_lies bk_held bk_size nu_learned nu_size to_letterMarks to_names to_spelled to_rows to_alike to_near to_asks to_letters to_words to_askCount) sz) r0) 0 0 (va_A (wX cB cI cJ cZ a (a 35) (a 4) ww_latestFault tp_bytes tp_size rd_fault rd_faultPlace rd_kind rd_start rd_at rd_number dr_letterMarks dr_names dr_spelled dr_rows dr_alike dr_near dr_asks dr_letters dr_words dr_askCount sh_lanes sh_sizes sh_cells la_xs la_ys la_heights la_ridgeXs la_ridgeHeights la_way la_blurs la_steps la_places la_ridges la_wayBlur la_wayLength bk_times bk_froms bk_asks bk_words bk_firsts bk_lies bk_held bk_size nu_learned nu_size to_letterMarks to_names to_spelled to_rows to_alike to_near to_asks to_letters to_words to_askCount) sz) := by
  refine Met.ofW (cc := cX6_allLettersTold) (maxL := 2) (ret := (some .boolean)) (by decide) rfl ?_
  intro p e s m args below meth c s₁ B hml hv
  obtain ⟨rfl, hsz, hP, hK, hD0, hE⟩ := hv
  have hx := B.exec
  have hb := B.bytes
  have hr := B.returns
  have hts := atoms_spec (ws := wsX6_allLettersTold) B.pre
  have hown : s.vm.findClass RX6 = some m.cls := findClass_of_methodNamed B.named
  have hlocks := B.notSynchronized
  subst hsz
  have hD := hD0.self (sz := s.heap.size)
  have hA : ∀ q : Nat, s.heap.size ≤ q → va_A (wX cB cI cJ cZ a (a 35) (a 4) ww_latestFault tp_bytes tp_size rd_fault rd_faultPlace rd_kind rd_start rd_at rd_number dr_letterMarks dr_names dr_spelled dr_rows dr_alike dr_near dr_asks dr_letters dr_words dr_askCount sh_lanes sh_sizes sh_cells la_xs la_ys la_heights la_ridgeXs la_ridgeHeights la_way la_blurs la_steps la_places la_ridges la_wayBlur la_wayLength bk_times bk_froms bk_asks bk_words bk_firsts bk_lies bk_held bk_size nu_learned nu_size to_letterMarks to_names to_spelled to_rows to_alike to_near to_asks to_letters to_words to_askCount) s.heap.size q := fun q h => Or.inr h
  generalize va_A (wX cB cI cJ cZ a (a 35) (a 4) ww_latestFault tp_bytes tp_size rd_fault rd_faultPlace rd_kind rd_start rd_at rd_number dr_letterMarks dr_names dr_spelled dr_rows dr_alike dr_near dr_asks dr_letters dr_words dr_askCount sh_lanes sh_sizes sh_cells la_xs la_ys la_heights la_ridgeXs la_ridgeHeights la_way la_blurs la_steps la_places la_ridges la_wayBlur la_wayLength bk_times bk_froms bk_asks bk_words bk_firsts bk_lies bk_held bk_size nu_learned nu_size to_letterMarks to_names to_spelled to_rows to_alike to_near to_asks to_letters to_words to_askCount) s.heap.size = A at hD hA hE ⊢
  have hS : va_S A s.heap s.heap [] := va_S.rf
  have C0 : cxt cX6_allLettersTold (some .boolean) 2 RX6 wsX6_allLettersTold (dC, dI) (tyz cB cI cJ cZ) (E_X adK adV) A p s m ([.ref (a 3)] : List Value).toArray meth c := ⟨hx, hb, hr, hml, hown, hts, hlocks, hK, hA, hE⟩
  have hl := lv_entry ([.ref (a 3)]) (n := 2) (Nat.le_of_ble_eq_true rfl)
  rw [lg_entry_eq]
  generalize (lg_sl ([.ref (a 3)]) ++ List.replicate (2 - (lg_sl ([.ref (a 3)])).length) Slot.unset).toArray = ls at hl ⊢
  have hl : lv_has ls 2 [(0, .ref (a 3))] := hl
  have hw0 := hts (.fieldLink RX6 51 "WhistledWords$TextReader" "start" "I") (by decide +kernel)
  have hnX6 : ∀ w ∈ u_ws RX6 TX6 8, w ∈ wsX6_allLettersTold := fun _ h => List.mem_cons_of_mem _ (List.mem_append_left _ (List.mem_append_left _ (List.mem_append_right _ h)))
  unfold fX6_allLettersTold at h
  refine lv_aload_n hx hb dX6_allLettersTold_0 rfl (lv_at hl 0 rfl) ?_
  refine gX_reader_start hx hb hts hnX6 hown hK hP hw0 dX6_allLettersTold_1 ?_
  refine lv_istore_n (lv' := [(1, .int rd_start), (0, .ref (a 3))]) hx hb dX6_allLettersTold_4 rfl hl (by decide) rfl (fun ls hl => ?_)
  exact kX6_allLettersTold_p5 dC dI cB cI cJ cZ a adK adV C0 n ww_latestFault tp_bytes tp_size rd_fault rd_faultPlace rd_kind rd_start rd_at rd_number dr_letterMarks dr_names dr_spelled dr_rows dr_alike dr_near dr_asks dr_letters dr_words dr_askCount sh_lanes sh_sizes sh_cells la_xs la_ys la_heights la_ridgeXs la_ridgeHeights la_way la_blurs la_steps la_places la_ridges la_wayBlur la_wayLength bk_times bk_froms bk_asks bk_words bk_firsts bk_lies bk_held bk_size nu_learned nu_size to_letterMarks to_names to_spelled to_rows to_alike to_near to_asks to_letters to_words to_askCount rd_start r0  n _ _ ls h hP hD hS (lv_sub hl [1, 0] rfl)
set_option maxHeartbeats 4000000 in
set_option maxRecDepth 100000 in
theorem kX6_nameRead_p7_r {p : Program} {l : Launch} {e : Env} {s : State} {m : MethodId} {args : Array Value} {below : List Frame} {meth : Method} {c : Code} {A : Nat → Prop} (dC : Nat → ClassId) (dI : Nat → Nat → Nat) (cB cI cJ cZ : ClassId) (a : Nat → Nat) (adK adV : Nat → Nat) (C0 : cxt cX6_nameRead (some .long) 4 RX6 wsX6_nameRead (dC, dI) (tyz cB cI cJ cZ) (E_X adK adV) A p s m args meth c) (n : Nat) (ww_latestFault : Int32) (tp_bytes : Nat → Int32) (tp_size : Int32) (rd_fault : Int32) (rd_faultPlace : Int32) (rd_kind : Int32) (rd_start : Int32) (rd_at : Int32) (rd_number : Int32) (dr_letterMarks : Nat → Int32) (dr_names : Nat → Int64) (dr_spelled : Nat → Int32) (dr_rows : Nat → Int64) (dr_alike : Nat → Int32) (dr_near : Nat → Int32) (dr_asks : Nat → Int32) (dr_letters : Int32) (dr_words : Int32) (dr_askCount : Int32) (sh_lanes : Nat → Int32) (sh_sizes : Nat → Int32) (sh_cells : Nat → Int32) (la_xs : Nat → Int32) (la_ys : Nat → Int32) (la_heights : Nat → Int32) (la_ridgeXs : Nat → Int32) (la_ridgeHeights : Nat → Int32) (la_way : Nat → Int32) (la_blurs : Nat → Int32) (la_steps : Nat → Int32) (la_places : Int32) (la_ridges : Int32) (la_wayBlur : Int32) (la_wayLength : Int32) (bk_times : Nat → Int32) (bk_froms : Nat → Int32) (bk_asks : Nat → Int32) (bk_words : Nat → Int32) (bk_firsts : Nat → Int32) (bk_lies : Nat → Int32) (bk_held : Nat → Int32) (bk_size : Int32) (nu_learned : Nat → Int32) (nu_size : Int32) (to_letterMarks : Nat → Int32) (to_names : Nat → Int64) (to_spelled : Nat → Int32) (to_rows : Nat → Int64) (to_alike : Nat → Int32) (to_near : Nat → Int32) (to_asks : Nat → Int32) (to_letters : Int32) (to_words : Int32) (to_askCount : Int32)  (r0 : Int64)  : ∀ (k : Nat) (x1 : Int64) (x3 : Int32) (H : Heap) (locs : List Loc) (ls : Array Slot), fX6_nameRead_p7 n tp_bytes rd_at k x1 x3 = some r0 → va_P (dC, dI) vwCl (wX cB cI cJ cZ a (a 35) (a 4) ww_latestFault tp_bytes tp_size rd_fault rd_faultPlace rd_kind rd_start rd_at rd_number dr_letterMarks dr_names dr_spelled dr_rows dr_alike dr_near dr_asks dr_letters dr_words dr_askCount sh_lanes sh_sizes sh_cells la_xs la_ys la_heights la_ridgeXs la_ridgeHeights la_way la_blurs la_steps la_places la_ridges la_wayBlur la_wayLength bk_times bk_froms bk_asks bk_words bk_firsts bk_lies bk_held bk_size nu_learned nu_size to_letterMarks to_names to_spelled to_rows to_alike to_near to_asks to_letters to_words to_askCount) H → va_D A (wX cB cI cJ cZ a (a 35) (a 4) ww_latestFault tp_bytes tp_size rd_fault rd_faultPlace rd_kind rd_start rd_at rd_number dr_letterMarks dr_names dr_spelled dr_rows dr_alike dr_near dr_asks dr_letters dr_words dr_askCount sh_lanes sh_sizes sh_cells la_xs la_ys la_heights la_ridgeXs la_ridgeHeights la_way la_blurs la_steps la_places la_ridges la_wayBlur la_wayLength bk_times bk_froms bk_asks bk_words bk_firsts bk_lies bk_held bk_size nu_learned nu_size to_letterMarks to_names to_spelled to_rows to_alike to_near to_asks to_letters to_words to_askCount) → va_S A s.heap H locs → lv_has ls 4 [(0, .ref (a 3)), (1, .long x1), (3, .int x3)] → W p l e { frames := 1, cells := 0, slots := 0, locals := 21 } s m args below meth c H locs 0 0 (MQ below (gL (dC, dI) (tyz cB cI cJ cZ) (wX cB cI cJ cZ a (a 35) (a 4) ww_latestFault tp_bytes tp_size rd_fault rd_faultPlace rd_kind rd_start rd_at rd_number dr_letterMarks dr_names dr_spelled dr_rows dr_alike dr_near dr_asks dr_letters dr_words dr_askCount sh_lanes sh_sizes sh_cells la_xs la_ys la_heights la_ridgeXs la_ridgeHeights la_way la_blurs la_steps la_places la_ridges la_wayBlur la_wayLength bk_times bk_froms bk_asks bk_words bk_firsts bk_lies bk_held bk_size nu_learned nu_size to_letterMarks to_names to_spelled to_rows to_alike to_near to_asks to_letters to_words to_askCount) A r0) args s 0 0 A) (F0 m 7 ls []) := by
  obtain ⟨hx, hb, hr, hml, hown, hts, hlocks, hK, hA, hE⟩ := id C0
  have hw0 := hts (.fieldLink RX6 32 "WhistledWords$TextReader" "at" "I") (by decide +kernel)
  have hw1 := hts (.constantLong RX6 140 (32)) (by decide +kernel)
  have hnX6 : ∀ w ∈ u_ws RX6 TX6 8, w ∈ wsX6_nameRead := fun _ h => List.mem_cons_of_mem _ (List.mem_append_left _ (List.mem_append_right _ h))
  intro k
  induction k with
  | zero =>
    intro x1 x3 H locs ls h
    cases h
  | succ k ih =>
    intro x1 x3 H locs ls h hP hD hS hl
    rw [fX6_nameRead_p7] at h
    refine lv_iload_n hx hb dX6_nameRead_7 rfl (lv_at hl 2 rfl) ?_
    refine lv_aload_n hx hb dX6_nameRead_8 rfl (lv_at hl 0 rfl) ?_
    refine gX_reader_at hx hb hts hnX6 hown hK hP hw0 dX6_nameRead_9 ?_
    refine lv_icmp_ge (tgt := 36) hx hb dX6_nameRead_12 (by decide) (fun c1 => ?_) (fun c1 => ?_)
    · have h := it_use c1 h
      refine lv_lload_n hx hb dX6_nameRead_36 rfl (lv_at hl 1 rfl) ?_
      obtain er := rt1_use h
      exact re_l hx hb hr hlocks hK hP hD hS er dX6_nameRead_37
    · have h := ie_use c1 h
      refine lv_lload_n hx hb dX6_nameRead_15 rfl (lv_at hl 1 rfl) ?_
      refine lv_ldc2 hx hb hown hw1 dX6_nameRead_16 ?_
      refine lv_lmul hx hb dX6_nameRead_19 ?_
      refine lv_aload_n hx hb dX6_nameRead_20 rfl (lv_at hl 0 rfl) ?_
      refine lv_iload_n hx hb dX6_nameRead_21 rfl (lv_at hl 2 rfl) ?_
      obtain ⟨v2, hc, h⟩ := bd1_use h
      refine cv_i (As := [.int x3]) (rest := [.long (x1 * (32 : Int64))]) ⟨hx, hb, hml, hown, hts⟩ (kX6_letterAt l n dC dI cB cI cJ cZ a adK adV _ ww_latestFault tp_bytes tp_size rd_fault rd_faultPlace rd_kind rd_start rd_at rd_number dr_letterMarks dr_names dr_spelled dr_rows dr_alike dr_near dr_asks dr_letters dr_words dr_askCount sh_lanes sh_sizes sh_cells la_xs la_ys la_heights la_ridgeXs la_ridgeHeights la_way la_blurs la_steps la_places la_ridges la_wayBlur la_wayLength bk_times bk_froms bk_asks bk_words bk_firsts bk_lies bk_held bk_size nu_learned nu_size to_letterMarks to_names to_spelled to_rows to_alike to_near to_asks to_letters to_words to_askCount x3 v2 hc) (cwV 1 hts gX6_nameRead_X6_letterAt rfl rfl rfl (by decide +kernel) ⟨Nat.le_of_ble_eq_true rfl, Nat.le_of_ble_eq_true rfl⟩) EB_X hE hK hP hD hS hA 3 (ci := 5) rfl rfl rfl rfl hl.1 rfl (Nat.le_of_ble_eq_true rfl) dX6_nameRead_22 ⟨Nat.zero_le _, Nat.zero_le _⟩ (fun H locs hP hD hS => ?_)
      refine lv_i2l hx hb dX6_nameRead_25 rfl ?_
      refine lv_ladd hx hb dX6_nameRead_26 ?_
      refine lv_lconst (v := 1) hx hb dX6_nameRead_27 (by decide) ?_
      refine lv_ladd hx hb dX6_nameRead_28 ?_
      refine lv_topl (fun v3 ev3 => ?_)
      have h := nm_use ev3 h
      refine lv_lstore_n (lv' := [(1, .long v3), (0, .ref (a 3)), (3, .int x3)]) hx hb dX6_nameRead_29 rfl hl (by decide) rfl (fun ls hl => ?_)
      refine lv_iinc (v := x3 + 1) (lv' := [(3, .int (x3 + 1)), (1, .long v3), (0, .ref (a 3))]) hx hb dX6_nameRead_30 hl (k := 2) rfl rfl (by decide) rfl (fun ls hl => ?_)
      refine lv_goto (tgt := 7) hx hb dX6_nameRead_33 (by decide) ?_
      exact ih v3 (x3 + 1) _ _ ls h hP hD hS (lv_sub hl [2, 1, 0] rfl)
theorem kX6_nameRead_p7 {p : Program} {l : Launch} {e : Env} {s : State} {m : MethodId} {args : Array Value} {below : List Frame} {meth : Method} {c : Code} {A : Nat → Prop} (dC : Nat → ClassId) (dI : Nat → Nat → Nat) (cB cI cJ cZ : ClassId) (a : Nat → Nat) (adK adV : Nat → Nat) (C0 : cxt cX6_nameRead (some .long) 4 RX6 wsX6_nameRead (dC, dI) (tyz cB cI cJ cZ) (E_X adK adV) A p s m args meth c) (n : Nat) (ww_latestFault : Int32) (tp_bytes : Nat → Int32) (tp_size : Int32) (rd_fault : Int32) (rd_faultPlace : Int32) (rd_kind : Int32) (rd_start : Int32) (rd_at : Int32) (rd_number : Int32) (dr_letterMarks : Nat → Int32) (dr_names : Nat → Int64) (dr_spelled : Nat → Int32) (dr_rows : Nat → Int64) (dr_alike : Nat → Int32) (dr_near : Nat → Int32) (dr_asks : Nat → Int32) (dr_letters : Int32) (dr_words : Int32) (dr_askCount : Int32) (sh_lanes : Nat → Int32) (sh_sizes : Nat → Int32) (sh_cells : Nat → Int32) (la_xs : Nat → Int32) (la_ys : Nat → Int32) (la_heights : Nat → Int32) (la_ridgeXs : Nat → Int32) (la_ridgeHeights : Nat → Int32) (la_way : Nat → Int32) (la_blurs : Nat → Int32) (la_steps : Nat → Int32) (la_places : Int32) (la_ridges : Int32) (la_wayBlur : Int32) (la_wayLength : Int32) (bk_times : Nat → Int32) (bk_froms : Nat → Int32) (bk_asks : Nat → Int32) (bk_words : Nat → Int32) (bk_firsts : Nat → Int32) (bk_lies : Nat → Int32) (bk_held : Nat → Int32) (bk_size : Int32) (nu_learned : Nat → Int32) (nu_size : Int32) (to_letterMarks : Nat → Int32) (to_names : Nat → Int64) (to_spelled : Nat → Int32) (to_rows : Nat → Int64) (to_alike : Nat → Int32) (to_near : Nat → Int32) (to_asks : Nat → Int32) (to_letters : Int32) (to_words : Int32) (to_askCount : Int32)  (x1 : Int64) (x3 : Int32) (r0 : Int64)  (k : Nat) (H : Heap) (locs : List Loc) (ls : Array Slot) : fX6_nameRead_p7 n tp_bytes rd_at k x1 x3 = some r0 → va_P (dC, dI) vwCl (wX cB cI cJ cZ a (a 35) (a 4) ww_latestFault tp_bytes tp_size rd_fault rd_faultPlace rd_kind rd_start rd_at rd_number dr_letterMarks dr_names dr_spelled dr_rows dr_alike dr_near dr_asks dr_letters dr_words dr_askCount sh_lanes sh_sizes sh_cells la_xs la_ys la_heights la_ridgeXs la_ridgeHeights la_way la_blurs la_steps la_places la_ridges la_wayBlur la_wayLength bk_times bk_froms bk_asks bk_words bk_firsts bk_lies bk_held bk_size nu_learned nu_size to_letterMarks to_names to_spelled to_rows to_alike to_near to_asks to_letters to_words to_askCount) H → va_D A (wX cB cI cJ cZ a (a 35) (a 4) ww_latestFault tp_bytes tp_size rd_fault rd_faultPlace rd_kind rd_start rd_at rd_number dr_letterMarks dr_names dr_spelled dr_rows dr_alike dr_near dr_asks dr_letters dr_words dr_askCount sh_lanes sh_sizes sh_cells la_xs la_ys la_heights la_ridgeXs la_ridgeHeights la_way la_blurs la_steps la_places la_ridges la_wayBlur la_wayLength bk_times bk_froms bk_asks bk_words bk_firsts bk_lies bk_held bk_size nu_learned nu_size to_letterMarks to_names to_spelled to_rows to_alike to_near to_asks to_letters to_words to_askCount) → va_S A s.heap H locs → lv_has ls 4 [(0, .ref (a 3)), (1, .long x1), (3, .int x3)] → W p l e { frames := 1, cells := 0, slots := 0, locals := 21 } s m args below meth c H locs 0 0 (MQ below (gL (dC, dI) (tyz cB cI cJ cZ) (wX cB cI cJ cZ a (a 35) (a 4) ww_latestFault tp_bytes tp_size rd_fault rd_faultPlace rd_kind rd_start rd_at rd_number dr_letterMarks dr_names dr_spelled dr_rows dr_alike dr_near dr_asks dr_letters dr_words dr_askCount sh_lanes sh_sizes sh_cells la_xs la_ys la_heights la_ridgeXs la_ridgeHeights la_way la_blurs la_steps la_places la_ridges la_wayBlur la_wayLength bk_times bk_froms bk_asks bk_words bk_firsts bk_lies bk_held bk_size nu_learned nu_size to_letterMarks to_names to_spelled to_rows to_alike to_near to_asks to_letters to_words to_askCount) A r0) args s 0 0 A) (F0 m 7 ls []) :=
  kX6_nameRead_p7_r dC dI cB cI cJ cZ a adK adV C0 n ww_latestFault tp_bytes tp_size rd_fault rd_faultPlace rd_kind rd_start rd_at rd_number dr_letterMarks dr_names dr_spelled dr_rows dr_alike dr_near dr_asks dr_letters dr_words dr_askCount sh_lanes sh_sizes sh_cells la_xs la_ys la_heights la_ridgeXs la_ridgeHeights la_way la_blurs la_steps la_places la_ridges la_wayBlur la_wayLength bk_times bk_froms bk_asks bk_words bk_firsts bk_lies bk_held bk_size nu_learned nu_size to_letterMarks to_names to_spelled to_rows to_alike to_near to_asks to_letters to_words to_askCount  r0  k x1 x3 H locs ls
set_option maxHeartbeats 4000000 in
set_option maxRecDepth 100000 in
theorem kX6_nameRead (l : Launch) (n : Nat) (dC : Nat → ClassId) (dI : Nat → Nat → Nat) (cB cI cJ cZ : ClassId) (a : Nat → Nat) (adK adV : Nat → Nat) (sz : Nat) (ww_latestFault : Int32) (tp_bytes : Nat → Int32) (tp_size : Int32) (rd_fault : Int32) (rd_faultPlace : Int32) (rd_kind : Int32) (rd_start : Int32) (rd_at : Int32) (rd_number : Int32) (dr_letterMarks : Nat → Int32) (dr_names : Nat → Int64) (dr_spelled : Nat → Int32) (dr_rows : Nat → Int64) (dr_alike : Nat → Int32) (dr_near : Nat → Int32) (dr_asks : Nat → Int32) (dr_letters : Int32) (dr_words : Int32) (dr_askCount : Int32) (sh_lanes : Nat → Int32) (sh_sizes : Nat → Int32) (sh_cells : Nat → Int32) (la_xs : Nat → Int32) (la_ys : Nat → Int32) (la_heights : Nat → Int32) (la_ridgeXs : Nat → Int32) (la_ridgeHeights : Nat → Int32) (la_way : Nat → Int32) (la_blurs : Nat → Int32) (la_steps : Nat → Int32) (la_places : Int32) (la_ridges : Int32) (la_wayBlur : Int32) (la_wayLength : Int32) (bk_times : Nat → Int32) (bk_froms : Nat → Int32) (bk_asks : Nat → Int32) (bk_words : Nat → Int32) (bk_firsts : Nat → Int32) (bk_lies : Nat → Int32) (bk_held : Nat → Int32) (bk_size : Int32) (nu_learned : Nat → Int32) (nu_size : Int32) (to_letterMarks : Nat → Int32) (to_names : Nat → Int64) (to_spelled : Nat → Int32) (to_rows : Nat → Int64) (to_alike : Nat → Int32) (to_near : Nat → Int32) (to_asks : Nat → Int32) (to_letters : Int32) (to_words : Int32) (to_askCount : Int32)  (r0 : Int64) (h : fX6_nameRead n tp_bytes rd_start rd_at = some r0) : Met l yX6_nameRead wsX6_nameRead ({ frames := 1, cells := 0, slots := 0, locals := 21 }) (gP (dC, dI) (tyz cB cI cJ cZ) (E_X adK adV) (wX cB cI cJ cZ a (a 35) (a 4) ww_latestFault tp_bytes tp_size rd_fault rd_faultPlace rd_kind rd_start rd_at rd_number dr_letterMarks dr_names dr_spelled dr_rows dr_alike dr_near dr_asks dr_letters dr_words dr_askCount sh_lanes sh_sizes sh_cells la_xs la_ys la_heights la_ridgeXs la_ridgeHeights la_way la_blurs la_steps la_places la_ridges la_wayBlur la_wayLength bk_times bk_froms bk_asks bk_words bk_firsts bk_lies bk_held bk_size nu_learned nu_size to_letterMarks to_names to_spelled to_rows to_alike to_near to_asks to_letters to_words to_askCount) sz [.ref (a 3)]) (gL (dC, dI) (tyz cB cI cJ cZ) (wX cB cI cJ cZ a (a 35) (a 4) ww_latestFault tp_bytes tp_size rd_fault rd_faultPlace rd_kind rd_start rd_at rd_number dr_letterMarks dr_names dr_spelled dr_rows dr_alike dr_near dr_asks dr_letters dr_words dr_askCount sh_lanes sh_sizes sh_cells la_xs la_ys la_heights la_ridgeXs la_ridgeHeights la_way la_blurs la_steps la_places la_ridges la_wayBlur la_wayLength bk_times bk_froms bk_asks bk_words bk_firsts bk_lies bk_held bk_size nu_learned nu_size to_letterMarks to_names to_spelled to_rows to_alike to_near to_asks to_letters to_words to_askCount) (va_A (wX cB cI cJ cZ a (a 35) (a 4) ww_latestFault tp_bytes tp_size rd_fault rd_faultPlace rd_kind rd_start rd_at rd_number dr_letterMarks dr_names dr_spelled dr_rows dr_alike dr_near dr_asks dr_letters dr_words dr_askCount sh_lanes sh_sizes sh_cells la_xs la_ys la_heights la_ridgeXs la_ridgeHeights la_way la_blurs la_steps la_places la_ridges la_wayBlur la_wayLength bk_times bk_froms bk_asks bk_words bk_firsts bk_lies bk_held bk_size nu_learned nu_size to_letterMarks to_names to_spelled to_rows to_alike to_near to_asks to_letters to_words to_askCount) sz) r0) 0 0 (va_A (wX cB cI cJ cZ a (a 35) (a 4) ww_latestFault tp_bytes tp_size rd_fault rd_faultPlace rd_kind rd_start rd_at rd_number dr_letterMarks dr_names dr_spelled dr_rows dr_alike dr_near dr_asks dr_letters dr_words dr_askCount sh_lanes sh_sizes sh_cells la_xs la_ys la_heights la_ridgeXs la_ridgeHeights la_way la_blurs la_steps la_places la_ridges la_wayBlur la_wayLength bk_times bk_froms bk_asks bk_words bk_firsts bk_lies bk_held bk_size nu_learned nu_size to_letterMarks to_names to_spelled to_rows to_alike to_near to_asks to_letters to_words to_askCount) sz) := by
  refine Met.ofW (cc := cX6_nameRead) (maxL := 4) (ret := (some .long)) (by decide) rfl ?_
  intro p e s m args below meth c s₁ B hml hv
  obtain ⟨rfl, hsz, hP, hK, hD0, hE⟩ := hv
  have hx := B.exec
  have hb := B.bytes
  have hr := B.returns
  have hts := atoms_spec (ws := wsX6_nameRead) B.pre
  have hown : s.vm.findClass RX6 = some m.cls := findClass_of_methodNamed B.named
  have hlocks := B.notSynchronized
  subst hsz
  have hD := hD0.self (sz := s.heap.size)
  have hA : ∀ q : Nat, s.heap.size ≤ q → va_A (wX cB cI cJ cZ a (a 35) (a 4) ww_latestFault tp_bytes tp_size rd_fault rd_faultPlace rd_kind rd_start rd_at rd_number dr_letterMarks dr_names dr_spelled dr_rows dr_alike dr_near dr_asks dr_letters dr_words dr_askCount sh_lanes sh_sizes sh_cells la_xs la_ys la_heights la_ridgeXs la_ridgeHeights la_way la_blurs la_steps la_places la_ridges la_wayBlur la_wayLength bk_times bk_froms bk_asks bk_words bk_firsts bk_lies bk_held bk_size nu_learned nu_size to_letterMarks to_names to_spelled to_rows to_alike to_near to_asks to_letters to_words to_askCount) s.heap.size q := fun q h => Or.inr h
  generalize va_A (wX cB cI cJ cZ a (a 35) (a 4) ww_latestFault tp_bytes tp_size rd_fault rd_faultPlace rd_kind rd_start rd_at rd_number dr_letterMarks dr_names dr_spelled dr_rows dr_alike dr_near dr_asks dr_letters dr_words dr_askCount sh_lanes sh_sizes sh_cells la_xs la_ys la_heights la_ridgeXs la_ridgeHeights la_way la_blurs la_steps la_places la_ridges la_wayBlur la_wayLength bk_times bk_froms bk_asks bk_words bk_firsts bk_lies bk_held bk_size nu_learned nu_size to_letterMarks to_names to_spelled to_rows to_alike to_near to_asks to_letters to_words to_askCount) s.heap.size = A at hD hA hE ⊢
  have hS : va_S A s.heap s.heap [] := va_S.rf
  have C0 : cxt cX6_nameRead (some .long) 4 RX6 wsX6_nameRead (dC, dI) (tyz cB cI cJ cZ) (E_X adK adV) A p s m ([.ref (a 3)] : List Value).toArray meth c := ⟨hx, hb, hr, hml, hown, hts, hlocks, hK, hA, hE⟩
  have hl := lv_entry ([.ref (a 3)]) (n := 4) (Nat.le_of_ble_eq_true rfl)
  rw [lg_entry_eq]
  generalize (lg_sl ([.ref (a 3)]) ++ List.replicate (4 - (lg_sl ([.ref (a 3)])).length) Slot.unset).toArray = ls at hl ⊢
  have hl : lv_has ls 4 [(0, .ref (a 3))] := hl
  have hw0 := hts (.fieldLink RX6 51 "WhistledWords$TextReader" "start" "I") (by decide +kernel)
  have hnX6 : ∀ w ∈ u_ws RX6 TX6 8, w ∈ wsX6_nameRead := fun _ h => List.mem_cons_of_mem _ (List.mem_append_left _ (List.mem_append_right _ h))
  unfold fX6_nameRead at h
  refine lv_lconst (v := 0) hx hb dX6_nameRead_0 (by decide) ?_
  refine lv_lstore_n (lv' := [(1, .long (0 : Int64)), (0, .ref (a 3))]) hx hb dX6_nameRead_1 rfl hl (by decide) rfl (fun ls hl => ?_)
  refine lv_aload_n hx hb dX6_nameRead_2 rfl (lv_at hl 1 rfl) ?_
  refine gX_reader_start hx hb hts hnX6 hown hK hP hw0 dX6_nameRead_3 ?_
  refine lv_istore_n (lv' := [(3, .int rd_start), (1, .long (0 : Int64)), (0, .ref (a 3))]) hx hb dX6_nameRead_6 rfl hl (by decide) rfl (fun ls hl => ?_)
  exact kX6_nameRead_p7 dC dI cB cI cJ cZ a adK adV C0 n ww_latestFault tp_bytes tp_size rd_fault rd_faultPlace rd_kind rd_start rd_at rd_number dr_letterMarks dr_names dr_spelled dr_rows dr_alike dr_near dr_asks dr_letters dr_words dr_askCount sh_lanes sh_sizes sh_cells la_xs la_ys la_heights la_ridgeXs la_ridgeHeights la_way la_blurs la_steps la_places la_ridges la_wayBlur la_wayLength bk_times bk_froms bk_asks bk_words bk_firsts bk_lies bk_held bk_size nu_learned nu_size to_letterMarks to_names to_spelled to_rows to_alike to_near to_asks to_letters to_words to_askCount (0 : Int64) rd_start r0  n _ _ ls h hP hD hS (lv_sub hl [2, 1, 0] rfl)
set_option maxHeartbeats 4000000 in
set_option maxRecDepth 100000 in
theorem kX7_hasName_D_p2_r {p : Program} {l : Launch} {e : Env} {s : State} {m : MethodId} {args : Array Value} {below : List Frame} {meth : Method} {c : Code} {A : Nat → Prop} (dC : Nat → ClassId) (dI : Nat → Nat → Nat) (cB cI cJ cZ : ClassId) (a : Nat → Nat) (adK adV : Nat → Nat) (C0 : cxt cX7_hasName (some .boolean) 4 RX7 wsX7_hasName (dC, dI) (tyz cB cI cJ cZ) (E_X adK adV) A p s m args meth c) (n : Nat) (ww_latestFault : Int32) (tp_bytes : Nat → Int32) (tp_size : Int32) (rd_fault : Int32) (rd_faultPlace : Int32) (rd_kind : Int32) (rd_start : Int32) (rd_at : Int32) (rd_number : Int32) (dr_letterMarks : Nat → Int32) (dr_names : Nat → Int64) (dr_spelled : Nat → Int32) (dr_rows : Nat → Int64) (dr_alike : Nat → Int32) (dr_near : Nat → Int32) (dr_asks : Nat → Int32) (dr_letters : Int32) (dr_words : Int32) (dr_askCount : Int32) (sh_lanes : Nat → Int32) (sh_sizes : Nat → Int32) (sh_cells : Nat → Int32) (la_xs : Nat → Int32) (la_ys : Nat → Int32) (la_heights : Nat → Int32) (la_ridgeXs : Nat → Int32) (la_ridgeHeights : Nat → Int32) (la_way : Nat → Int32) (la_blurs : Nat → Int32) (la_steps : Nat → Int32) (la_places : Int32) (la_ridges : Int32) (la_wayBlur : Int32) (la_wayLength : Int32) (bk_times : Nat → Int32) (bk_froms : Nat → Int32) (bk_asks : Nat → Int32) (bk_words : Nat → Int32) (bk_firsts : Nat → Int32) (bk_lies : Nat → Int32) (bk_held : Nat → Int32) (bk_size : Int32) (nu_learned : Nat → Int32) (nu_size : Int32) (to_letterMarks : Nat → Int32) (to_names : Nat → Int64) (to_spelled : Nat → Int32) (to_rows : Nat → Int64) (to_alike : Nat → Int32) (to_near : Nat → Int32) (to_asks : Nat → Int32) (to_letters : Int32) (to_words : Int32) (to_askCount : Int32) (x1 : Int64) (r0 : Int32)  : ∀ (k : Nat) (x3 : Int32) (H : Heap) (locs : List Loc) (ls : Array Slot), fX7_hasName_p2 n dr_names dr_words x1 k x3 = some r0 → va_P (dC, dI) vwCl (wX cB cI cJ cZ a (a 35) (a 4) ww_latestFault tp_bytes tp_size rd_fault rd_faultPlace rd_kind rd_start rd_at rd_number dr_letterMarks dr_names dr_spelled dr_rows dr_alike dr_near dr_asks dr_letters dr_words dr_askCount sh_lanes sh_sizes sh_cells la_xs la_ys la_heights la_ridgeXs la_ridgeHeights la_way la_blurs la_steps la_places la_ridges la_wayBlur la_wayLength bk_times bk_froms bk_asks bk_words bk_firsts bk_lies bk_held bk_size nu_learned nu_size to_letterMarks to_names to_spelled to_rows to_alike to_near to_asks to_letters to_words to_askCount) H → va_D A (wX cB cI cJ cZ a (a 35) (a 4) ww_latestFault tp_bytes tp_size rd_fault rd_faultPlace rd_kind rd_start rd_at rd_number dr_letterMarks dr_names dr_spelled dr_rows dr_alike dr_near dr_asks dr_letters dr_words dr_askCount sh_lanes sh_sizes sh_cells la_xs la_ys la_heights la_ridgeXs la_ridgeHeights la_way la_blurs la_steps la_places la_ridges la_wayBlur la_wayLength bk_times bk_froms bk_asks bk_words bk_firsts bk_lies bk_held bk_size nu_learned nu_size to_letterMarks to_names to_spelled to_rows to_alike to_near to_asks to_letters to_words to_askCount) → va_S A s.heap H locs → lv_has ls 4 [(0, .ref (a 4)), (1, .long x1), (3, .int x3)] → W p l e { frames := 0, cells := 0, slots := 0, locals := 0 } s m args below meth c H locs 0 0 (MQ below (gI (dC, dI) (tyz cB cI cJ cZ) (wX cB cI cJ cZ a (a 35) (a 4) ww_latestFault tp_bytes tp_size rd_fault rd_faultPlace rd_kind rd_start rd_at rd_number dr_letterMarks dr_names dr_spelled dr_rows dr_alike dr_near dr_asks dr_letters dr_words dr_askCount sh_lanes sh_sizes sh_cells la_xs la_ys la_heights la_ridgeXs la_ridgeHeights la_way la_blurs la_steps la_places la_ridges la_wayBlur la_wayLength bk_times bk_froms bk_asks bk_words bk_firsts bk_lies bk_held bk_size nu_learned nu_size to_letterMarks to_names to_spelled to_rows to_alike to_near to_asks to_letters to_words to_askCount) A r0) args s 0 0 A) (F0 m 2 ls []) := by
  obtain ⟨hx, hb, hr, hml, hown, hts, hlocks, hK, hA, hE⟩ := id C0
  have hw0 := hts (.fieldLink RX7 44 "WhistledWords$Tongue" "words" "I") (by decide +kernel)
  have hw1 := hts (.fieldLink RX7 21 "WhistledWords$Tongue" "names" "[J") (by decide +kernel)
  have hnX7 : ∀ w ∈ u_ws RX7 TX7 10, w ∈ wsX7_hasName := fun _ h => List.mem_cons_of_mem _ (List.mem_append_right _ h)
  intro k
  induction k with
  | zero =>
    intro x3 H locs ls h
    cases h
  | succ k ih =>
    intro x3 H locs ls h hP hD hS hl
    rw [fX7_hasName_p2] at h
    refine lv_iload_n hx hb dX7_hasName_2 rfl (lv_at hl 2 rfl) ?_
    refine lv_aload_n hx hb dX7_hasName_3 rfl (lv_at hl 0 rfl) ?_
    refine gX_draft_words hx hb hts hnX7 hown hK hP hw0 dX7_hasName_4 ?_
    refine lv_icmp_ge (tgt := 29) hx hb dX7_hasName_7 (by decide) (fun c1 => ?_) (fun c1 => ?_)
    · have h := it_use c1 h
      refine lv_iconst (v := 0) hx hb dX7_hasName_29 (by decide) ?_
      obtain er := rt1_use h
      exact re_z hx hb hr hlocks hK hP hD hS (Or.inl rfl) er dX7_hasName_30
    · have h := ie_use c1 h
      refine lv_aload_n hx hb dX7_hasName_10 rfl (lv_at hl 0 rfl) ?_
      refine gX_draft_names hx hb hts hnX7 hown hK hP hw1 dX7_hasName_11 ?_
      refine lv_iload_n hx hb dX7_hasName_14 rfl (lv_at hl 2 rfl) ?_
      obtain ⟨hiv2, h⟩ := ar_use h
      refine lX_draft_names hx hb hK hP hiv2 dX7_hasName_15 ?_
      refine lv_topl (fun v2 ev2 => ?_)
      have h := h v2 ev2
      refine lv_lload_n hx hb dX7_hasName_16 rfl (lv_at hl 1 rfl) ?_
      refine W.lcmp hx hb dX7_hasName_17 ?_
      refine lv_if_ne (tgt := 23) hx hb dX7_hasName_18 (by decide) (fun c3 => ?_) (fun c3 => ?_)
      · have h := ie_use c3 h
        refine lv_iinc (v := x3 + 1) (lv' := [(3, .int (x3 + 1)), (0, .ref (a 4)), (1, .long x1)]) hx hb dX7_hasName_23 hl (k := 2) rfl rfl (by decide) rfl (fun ls hl => ?_)
        refine lv_goto (tgt := 2) hx hb dX7_hasName_26 (by decide) ?_
        exact ih (x3 + 1) _ _ ls h hP hD hS (lv_sub hl [1, 2, 0] rfl)
      · have h := it_use c3 h
        refine lv_iconst (v := 1) hx hb dX7_hasName_21 (by decide) ?_
        obtain er := rt1_use h
        exact re_z hx hb hr hlocks hK hP hD hS (Or.inr rfl) er dX7_hasName_22
theorem kX7_hasName_D_p2 {p : Program} {l : Launch} {e : Env} {s : State} {m : MethodId} {args : Array Value} {below : List Frame} {meth : Method} {c : Code} {A : Nat → Prop} (dC : Nat → ClassId) (dI : Nat → Nat → Nat) (cB cI cJ cZ : ClassId) (a : Nat → Nat) (adK adV : Nat → Nat) (C0 : cxt cX7_hasName (some .boolean) 4 RX7 wsX7_hasName (dC, dI) (tyz cB cI cJ cZ) (E_X adK adV) A p s m args meth c) (n : Nat) (ww_latestFault : Int32) (tp_bytes : Nat → Int32) (tp_size : Int32) (rd_fault : Int32) (rd_faultPlace : Int32) (rd_kind : Int32) (rd_start : Int32) (rd_at : Int32) (rd_number : Int32) (dr_letterMarks : Nat → Int32) (dr_names : Nat → Int64) (dr_spelled : Nat → Int32) (dr_rows : Nat → Int64) (dr_alike : Nat → Int32) (dr_near : Nat → Int32) (dr_asks : Nat → Int32) (dr_letters : Int32) (dr_words : Int32) (dr_askCount : Int32) (sh_lanes : Nat → Int32) (sh_sizes : Nat → Int32) (sh_cells : Nat → Int32) (la_xs : Nat → Int32) (la_ys : Nat → Int32) (la_heights : Nat → Int32) (la_ridgeXs : Nat → Int32) (la_ridgeHeights : Nat → Int32) (la_way : Nat → Int32) (la_blurs : Nat → Int32) (la_steps : Nat → Int32) (la_places : Int32) (la_ridges : Int32) (la_wayBlur : Int32) (la_wayLength : Int32) (bk_times : Nat → Int32) (bk_froms : Nat → Int32) (bk_asks : Nat → Int32) (bk_words : Nat → Int32) (bk_firsts : Nat → Int32) (bk_lies : Nat → Int32) (bk_held : Nat → Int32) (bk_size : Int32) (nu_learned : Nat → Int32) (nu_size : Int32) (to_letterMarks : Nat → Int32) (to_names : Nat → Int64) (to_spelled : Nat → Int32) (to_rows : Nat → Int64) (to_alike : Nat → Int32) (to_near : Nat → Int32) (to_asks : Nat → Int32) (to_letters : Int32) (to_words : Int32) (to_askCount : Int32)  (x1 : Int64) (x3 : Int32) (r0 : Int32)  (k : Nat) (H : Heap) (locs : List Loc) (ls : Array Slot) : fX7_hasName_p2 n dr_names dr_words x1 k x3 = some r0 → va_P (dC, dI) vwCl (wX cB cI cJ cZ a (a 35) (a 4) ww_latestFault tp_bytes tp_size rd_fault rd_faultPlace rd_kind rd_start rd_at rd_number dr_letterMarks dr_names dr_spelled dr_rows dr_alike dr_near dr_asks dr_letters dr_words dr_askCount sh_lanes sh_sizes sh_cells la_xs la_ys la_heights la_ridgeXs la_ridgeHeights la_way la_blurs la_steps la_places la_ridges la_wayBlur la_wayLength bk_times bk_froms bk_asks bk_words bk_firsts bk_lies bk_held bk_size nu_learned nu_size to_letterMarks to_names to_spelled to_rows to_alike to_near to_asks to_letters to_words to_askCount) H → va_D A (wX cB cI cJ cZ a (a 35) (a 4) ww_latestFault tp_bytes tp_size rd_fault rd_faultPlace rd_kind rd_start rd_at rd_number dr_letterMarks dr_names dr_spelled dr_rows dr_alike dr_near dr_asks dr_letters dr_words dr_askCount sh_lanes sh_sizes sh_cells la_xs la_ys la_heights la_ridgeXs la_ridgeHeights la_way la_blurs la_steps la_places la_ridges la_wayBlur la_wayLength bk_times bk_froms bk_asks bk_words bk_firsts bk_lies bk_held bk_size nu_learned nu_size to_letterMarks to_names to_spelled to_rows to_alike to_near to_asks to_letters to_words to_askCount) → va_S A s.heap H locs → lv_has ls 4 [(0, .ref (a 4)), (1, .long x1), (3, .int x3)] → W p l e { frames := 0, cells := 0, slots := 0, locals := 0 } s m args below meth c H locs 0 0 (MQ below (gI (dC, dI) (tyz cB cI cJ cZ) (wX cB cI cJ cZ a (a 35) (a 4) ww_latestFault tp_bytes tp_size rd_fault rd_faultPlace rd_kind rd_start rd_at rd_number dr_letterMarks dr_names dr_spelled dr_rows dr_alike dr_near dr_asks dr_letters dr_words dr_askCount sh_lanes sh_sizes sh_cells la_xs la_ys la_heights la_ridgeXs la_ridgeHeights la_way la_blurs la_steps la_places la_ridges la_wayBlur la_wayLength bk_times bk_froms bk_asks bk_words bk_firsts bk_lies bk_held bk_size nu_learned nu_size to_letterMarks to_names to_spelled to_rows to_alike to_near to_asks to_letters to_words to_askCount) A r0) args s 0 0 A) (F0 m 2 ls []) :=
  kX7_hasName_D_p2_r dC dI cB cI cJ cZ a adK adV C0 n ww_latestFault tp_bytes tp_size rd_fault rd_faultPlace rd_kind rd_start rd_at rd_number dr_letterMarks dr_names dr_spelled dr_rows dr_alike dr_near dr_asks dr_letters dr_words dr_askCount sh_lanes sh_sizes sh_cells la_xs la_ys la_heights la_ridgeXs la_ridgeHeights la_way la_blurs la_steps la_places la_ridges la_wayBlur la_wayLength bk_times bk_froms bk_asks bk_words bk_firsts bk_lies bk_held bk_size nu_learned nu_size to_letterMarks to_names to_spelled to_rows to_alike to_near to_asks to_letters to_words to_askCount x1 r0  k x3 H locs ls
set_option maxHeartbeats 4000000 in
set_option maxRecDepth 100000 in
theorem kX7_hasName_D (l : Launch) (n : Nat) (dC : Nat → ClassId) (dI : Nat → Nat → Nat) (cB cI cJ cZ : ClassId) (a : Nat → Nat) (adK adV : Nat → Nat) (sz : Nat) (ww_latestFault : Int32) (tp_bytes : Nat → Int32) (tp_size : Int32) (rd_fault : Int32) (rd_faultPlace : Int32) (rd_kind : Int32) (rd_start : Int32) (rd_at : Int32) (rd_number : Int32) (dr_letterMarks : Nat → Int32) (dr_names : Nat → Int64) (dr_spelled : Nat → Int32) (dr_rows : Nat → Int64) (dr_alike : Nat → Int32) (dr_near : Nat → Int32) (dr_asks : Nat → Int32) (dr_letters : Int32) (dr_words : Int32) (dr_askCount : Int32) (sh_lanes : Nat → Int32) (sh_sizes : Nat → Int32) (sh_cells : Nat → Int32) (la_xs : Nat → Int32) (la_ys : Nat → Int32) (la_heights : Nat → Int32) (la_ridgeXs : Nat → Int32) (la_ridgeHeights : Nat → Int32) (la_way : Nat → Int32) (la_blurs : Nat → Int32) (la_steps : Nat → Int32) (la_places : Int32) (la_ridges : Int32) (la_wayBlur : Int32) (la_wayLength : Int32) (bk_times : Nat → Int32) (bk_froms : Nat → Int32) (bk_asks : Nat → Int32) (bk_words : Nat → Int32) (bk_firsts : Nat → Int32) (bk_lies : Nat → Int32) (bk_held : Nat → Int32) (bk_size : Int32) (nu_learned : Nat → Int32) (nu_size : Int32) (to_letterMarks : Nat → Int32) (to_names : Nat → Int64) (to_spelled : Nat → Int32) (to_rows : Nat → Int64) (to_alike : Nat → Int32) (to_near : Nat → Int32) (to_asks : Nat → Int32) (to_letters : Int32) (to_words : Int32) (to_askCount : Int32) (x1 : Int64) (r0 : Int32) (h : fX7_hasName n dr_names dr_words x1 = some r0) : Met l yX7_hasName wsX7_hasName ({ frames := 0, cells := 0, slots := 0, locals := 0 }) (gP (dC, dI) (tyz cB cI cJ cZ) (E_X adK adV) (wX cB cI cJ cZ a (a 35) (a 4) ww_latestFault tp_bytes tp_size rd_fault rd_faultPlace rd_kind rd_start rd_at rd_number dr_letterMarks dr_names dr_spelled dr_rows dr_alike dr_near dr_asks dr_letters dr_words dr_askCount sh_lanes sh_sizes sh_cells la_xs la_ys la_heights la_ridgeXs la_ridgeHeights la_way la_blurs la_steps la_places la_ridges la_wayBlur la_wayLength bk_times bk_froms bk_asks bk_words bk_firsts bk_lies bk_held bk_size nu_learned nu_size to_letterMarks to_names to_spelled to_rows to_alike to_near to_asks to_letters to_words to_askCount) sz [.ref (a 4), .long x1]) (gI (dC, dI) (tyz cB cI cJ cZ) (wX cB cI cJ cZ a (a 35) (a 4) ww_latestFault tp_bytes tp_size rd_fault rd_faultPlace rd_kind rd_start rd_at rd_number dr_letterMarks dr_names dr_spelled dr_rows dr_alike dr_near dr_asks dr_letters dr_words dr_askCount sh_lanes sh_sizes sh_cells la_xs la_ys la_heights la_ridgeXs la_ridgeHeights la_way la_blurs la_steps la_places la_ridges la_wayBlur la_wayLength bk_times bk_froms bk_asks bk_words bk_firsts bk_lies bk_held bk_size nu_learned nu_size to_letterMarks to_names to_spelled to_rows to_alike to_near to_asks to_letters to_words to_askCount) (va_A (wX cB cI cJ cZ a (a 35) (a 4) ww_latestFault tp_bytes tp_size rd_fault rd_faultPlace rd_kind rd_start rd_at rd_number dr_letterMarks dr_names dr_spelled dr_rows dr_alike dr_near dr_asks dr_letters dr_words dr_askCount sh_lanes sh_sizes sh_cells la_xs la_ys la_heights la_ridgeXs la_ridgeHeights la_way la_blurs la_steps la_places la_ridges la_wayBlur la_wayLength bk_times bk_froms bk_asks bk_words bk_firsts bk_lies bk_held bk_size nu_learned nu_size to_letterMarks to_names to_spelled to_rows to_alike to_near to_asks to_letters to_words to_askCount) sz) r0) 0 0 (va_A (wX cB cI cJ cZ a (a 35) (a 4) ww_latestFault tp_bytes tp_size rd_fault rd_faultPlace rd_kind rd_start rd_at rd_number dr_letterMarks dr_names dr_spelled dr_rows dr_alike dr_near dr_asks dr_letters dr_words dr_askCount sh_lanes sh_sizes sh_cells la_xs la_ys la_heights la_ridgeXs la_ridgeHeights la_way la_blurs la_steps la_places la_ridges la_wayBlur la_wayLength bk_times bk_froms bk_asks bk_words bk_firsts bk_lies bk_held bk_size nu_learned nu_size to_letterMarks to_names to_spelled to_rows to_alike to_near to_asks to_letters to_words to_askCount) sz) := by
  refine Met.ofW (cc := cX7_hasName) (maxL := 4) (ret := (some .boolean)) (by decide) rfl ?_
  intro p e s m args below meth c s₁ B hml hv
  obtain ⟨rfl, hsz, hP, hK, hD0, hE⟩ := hv
  have hx := B.exec
  have hb := B.bytes
  have hr := B.returns
  have hts := atoms_spec (ws := wsX7_hasName) B.pre
  have hown : s.vm.findClass RX7 = some m.cls := findClass_of_methodNamed B.named
  have hlocks := B.notSynchronized
  subst hsz
  have hD := hD0.self (sz := s.heap.size)
  have hA : ∀ q : Nat, s.heap.size ≤ q → va_A (wX cB cI cJ cZ a (a 35) (a 4) ww_latestFault tp_bytes tp_size rd_fault rd_faultPlace rd_kind rd_start rd_at rd_number dr_letterMarks dr_names dr_spelled dr_rows dr_alike dr_near dr_asks dr_letters dr_words dr_askCount sh_lanes sh_sizes sh_cells la_xs la_ys la_heights la_ridgeXs la_ridgeHeights la_way la_blurs la_steps la_places la_ridges la_wayBlur la_wayLength bk_times bk_froms bk_asks bk_words bk_firsts bk_lies bk_held bk_size nu_learned nu_size to_letterMarks to_names to_spelled to_rows to_alike to_near to_asks to_letters to_words to_askCount) s.heap.size q := fun q h => Or.inr h
  generalize va_A (wX cB cI cJ cZ a (a 35) (a 4) ww_latestFault tp_bytes tp_size rd_fault rd_faultPlace rd_kind rd_start rd_at rd_number dr_letterMarks dr_names dr_spelled dr_rows dr_alike dr_near dr_asks dr_letters dr_words dr_askCount sh_lanes sh_sizes sh_cells la_xs la_ys la_heights la_ridgeXs la_ridgeHeights la_way la_blurs la_steps la_places la_ridges la_wayBlur la_wayLength bk_times bk_froms bk_asks bk_words bk_firsts bk_lies bk_held bk_size nu_learned nu_size to_letterMarks to_names to_spelled to_rows to_alike to_near to_asks to_letters to_words to_askCount) s.heap.size = A at hD hA hE ⊢
  have hS : va_S A s.heap s.heap [] := va_S.rf
  have C0 : cxt cX7_hasName (some .boolean) 4 RX7 wsX7_hasName (dC, dI) (tyz cB cI cJ cZ) (E_X adK adV) A p s m ([.ref (a 4), .long x1] : List Value).toArray meth c := ⟨hx, hb, hr, hml, hown, hts, hlocks, hK, hA, hE⟩
  have hl := lv_entry ([.ref (a 4), .long x1]) (n := 4) (Nat.le_of_ble_eq_true rfl)
  rw [lg_entry_eq]
  generalize (lg_sl ([.ref (a 4), .long x1]) ++ List.replicate (4 - (lg_sl ([.ref (a 4), .long x1])).length) Slot.unset).toArray = ls at hl ⊢
  have hl : lv_has ls 4 [(0, .ref (a 4)), (1, .long x1)] := hl
  unfold fX7_hasName at h
  refine lv_iconst (v := 0) hx hb dX7_hasName_0 (by decide) ?_
  refine lv_istore_n (lv' := [(3, .int (0 : Int32)), (0, .ref (a 4)), (1, .long x1)]) hx hb dX7_hasName_1 rfl hl (by decide) rfl (fun ls hl => ?_)
  exact kX7_hasName_D_p2 dC dI cB cI cJ cZ a adK adV C0 n ww_latestFault tp_bytes tp_size rd_fault rd_faultPlace rd_kind rd_start rd_at rd_number dr_letterMarks dr_names dr_spelled dr_rows dr_alike dr_near dr_asks dr_letters dr_words dr_askCount sh_lanes sh_sizes sh_cells la_xs la_ys la_heights la_ridgeXs la_ridgeHeights la_way la_blurs la_steps la_places la_ridges la_wayBlur la_wayLength bk_times bk_froms bk_asks bk_words bk_firsts bk_lies bk_held bk_size nu_learned nu_size to_letterMarks to_names to_spelled to_rows to_alike to_near to_asks to_letters to_words to_askCount x1 (0 : Int32) r0  n _ _ ls h hP hD hS (lv_sub hl [1, 2, 0] rfl)
set_option maxHeartbeats 4000000 in
set_option maxRecDepth 100000 in
theorem kX6_speechRead_p10_r {p : Program} {l : Launch} {e : Env} {s : State} {m : MethodId} {args : Array Value} {below : List Frame} {meth : Method} {c : Code} {A : Nat → Prop} (dC : Nat → ClassId) (dI : Nat → Nat → Nat) (cB cI cJ cZ : ClassId) (a : Nat → Nat) (adK adV : Nat → Nat) (C0 : cxt cX6_speechRead (some .long) 6 RX6 wsX6_speechRead (dC, dI) (tyz cB cI cJ cZ) (E_X adK adV) A p s m args meth c) (n : Nat) (ww_latestFault : Int32) (tp_bytes : Nat → Int32) (tp_size : Int32) (rd_fault : Int32) (rd_faultPlace : Int32) (rd_kind : Int32) (rd_start : Int32) (rd_at : Int32) (rd_number : Int32) (dr_letterMarks : Nat → Int32) (dr_names : Nat → Int64) (dr_spelled : Nat → Int32) (dr_rows : Nat → Int64) (dr_alike : Nat → Int32) (dr_near : Nat → Int32) (dr_asks : Nat → Int32) (dr_letters : Int32) (dr_words : Int32) (dr_askCount : Int32) (sh_lanes : Nat → Int32) (sh_sizes : Nat → Int32) (sh_cells : Nat → Int32) (la_xs : Nat → Int32) (la_ys : Nat → Int32) (la_heights : Nat → Int32) (la_ridgeXs : Nat → Int32) (la_ridgeHeights : Nat → Int32) (la_way : Nat → Int32) (la_blurs : Nat → Int32) (la_steps : Nat → Int32) (la_places : Int32) (la_ridges : Int32) (la_wayBlur : Int32) (la_wayLength : Int32) (bk_times : Nat → Int32) (bk_froms : Nat → Int32) (bk_asks : Nat → Int32) (bk_words : Nat → Int32) (bk_firsts : Nat → Int32) (bk_lies : Nat → Int32) (bk_held : Nat → Int32) (bk_size : Int32) (nu_learned : Nat → Int32) (nu_size : Int32) (to_letterMarks : Nat → Int32) (to_names : Nat → Int64) (to_spelled : Nat → Int32) (to_rows : Nat → Int64) (to_alike : Nat → Int32) (to_near : Nat → Int32) (to_asks : Nat → Int32) (to_letters : Int32) (to_words : Int32) (to_askCount : Int32)  (r0 : Int64)  : ∀ (k : Nat) (x1 : Int64) (x3 : Int32) (x4 : Int32) (H : Heap) (locs : List Loc) (ls : Array Slot), fX6_speechRead_p10 n tp_bytes rd_at dr_letterMarks k x1 x3 x4 = some r0 → va_P (dC, dI) vwCl (wX cB cI cJ cZ a (a 35) (a 4) ww_latestFault tp_bytes tp_size rd_fault rd_faultPlace rd_kind rd_start rd_at rd_number dr_letterMarks dr_names dr_spelled dr_rows dr_alike dr_near dr_asks dr_letters dr_words dr_askCount sh_lanes sh_sizes sh_cells la_xs la_ys la_heights la_ridgeXs la_ridgeHeights la_way la_blurs la_steps la_places la_ridges la_wayBlur la_wayLength bk_times bk_froms bk_asks bk_words bk_firsts bk_lies bk_held bk_size nu_learned nu_size to_letterMarks to_names to_spelled to_rows to_alike to_near to_asks to_letters to_words to_askCount) H → va_D A (wX cB cI cJ cZ a (a 35) (a 4) ww_latestFault tp_bytes tp_size rd_fault rd_faultPlace rd_kind rd_start rd_at rd_number dr_letterMarks dr_names dr_spelled dr_rows dr_alike dr_near dr_asks dr_letters dr_words dr_askCount sh_lanes sh_sizes sh_cells la_xs la_ys la_heights la_ridgeXs la_ridgeHeights la_way la_blurs la_steps la_places la_ridges la_wayBlur la_wayLength bk_times bk_froms bk_asks bk_words bk_firsts bk_lies bk_held bk_size nu_learned nu_size to_letterMarks to_names to_spelled to_rows to_alike to_near to_asks to_letters to_words to_askCount) → va_S A s.heap H locs → lv_has ls 6 [(0, .ref (a 3)), (1, .long x1), (3, .int x3), (4, .int x4)] → W p l e { frames := 1, cells := 0, slots := 0, locals := 23 } s m args below meth c H locs 0 0 (MQ below (gL (dC, dI) (tyz cB cI cJ cZ) (wX cB cI cJ cZ a (a 35) (a 4) ww_latestFault tp_bytes tp_size rd_fault rd_faultPlace rd_kind rd_start rd_at rd_number dr_letterMarks dr_names dr_spelled dr_rows dr_alike dr_near dr_asks dr_letters dr_words dr_askCount sh_lanes sh_sizes sh_cells la_xs la_ys la_heights la_ridgeXs la_ridgeHeights la_way la_blurs la_steps la_places la_ridges la_wayBlur la_wayLength bk_times bk_froms bk_asks bk_words bk_firsts bk_lies bk_held bk_size nu_learned nu_size to_letterMarks to_names to_spelled to_rows to_alike to_near to_asks to_letters to_words to_askCount) A r0) args s 0 0 A) (F0 m 10 ls []) := by
  obtain ⟨hx, hb, hr, hml, hown, hts, hlocks, hK, hA, hE⟩ := id C0
  have hw0 := hts (.fieldLink RX6 32 "WhistledWords$TextReader" "at" "I") (by decide +kernel)
  have hw1 := hts (.fieldLink RX6 18 "WhistledWords$TextReader" "draft" "LWhistledWords$Tongue;") (by decide +kernel)
  have hw2 := hts (.fieldLink RX6 102 "WhistledWords$Tongue" "letterMarks" "[I") (by decide +kernel)
  have hnX6 : ∀ w ∈ u_ws RX6 TX6 8, w ∈ wsX6_speechRead := fun _ h => List.mem_cons_of_mem _ (List.mem_append_left _ (List.mem_append_left _ (List.mem_append_right _ h)))
  have hnX7 : ∀ w ∈ u_ws RX7 TX7 10, w ∈ wsX6_speechRead := fun _ h => List.mem_cons_of_mem _ (List.mem_append_left _ (List.mem_append_right _ h))
  intro k
  induction k with
  | zero =>
    intro x1 x3 x4 H locs ls h
    cases h
  | succ k ih =>
    intro x1 x3 x4 H locs ls h hP hD hS hl
    rw [fX6_speechRead_p10] at h
    refine lv_iload hx hb dX6_speechRead_10 (lv_at hl 3 rfl) ?_
    refine lv_aload_n hx hb dX6_speechRead_12 rfl (lv_at hl 0 rfl) ?_
    refine gX_reader_at hx hb hts hnX6 hown hK hP hw0 dX6_speechRead_13 ?_
    refine lv_icmp_ge (tgt := 59) hx hb dX6_speechRead_16 (by decide) (fun c1 => ?_) (fun c1 => ?_)
    · have h := it_use c1 h
      refine lv_lload_n hx hb dX6_speechRead_59 rfl (lv_at hl 1 rfl) ?_
      obtain er := rt1_use h
      exact re_l hx hb hr hlocks hK hP hD hS er dX6_speechRead_60
    · have h := ie_use c1 h
      refine lv_aload_n hx hb dX6_speechRead_19 rfl (lv_at hl 0 rfl) ?_
      refine gX_reader_draft hx hb hts hnX6 hown hK hP hw1 dX6_speechRead_20 ?_
      refine gX_draft_letterMarks hx hb hts hnX7 hown hK hP hw2 dX6_speechRead_23 ?_
      refine lv_aload_n hx hb dX6_speechRead_26 rfl (lv_at hl 0 rfl) ?_
      refine lv_iload hx hb dX6_speechRead_27 (lv_at hl 3 rfl) ?_
      obtain ⟨v2, hc, h⟩ := bd1_use h
      refine cv_i (As := [.int x4]) (rest := [.ref (a 5)]) ⟨hx, hb, hml, hown, hts⟩ (kX6_letterAt l n dC dI cB cI cJ cZ a adK adV _ ww_latestFault tp_bytes tp_size rd_fault rd_faultPlace rd_kind rd_start rd_at rd_number dr_letterMarks dr_names dr_spelled dr_rows dr_alike dr_near dr_asks dr_letters dr_words dr_askCount sh_lanes sh_sizes sh_cells la_xs la_ys la_heights la_ridgeXs la_ridgeHeights la_way la_blurs la_steps la_places la_ridges la_wayBlur la_wayLength bk_times bk_froms bk_asks bk_words bk_firsts bk_lies bk_held bk_size nu_learned nu_size to_letterMarks to_names to_spelled to_rows to_alike to_near to_asks to_letters to_words to_askCount x4 v2 hc) (cwV 1 hts gX6_speechRead_X6_letterAt rfl rfl rfl (by decide +kernel) ⟨Nat.le_of_ble_eq_true rfl, Nat.le_of_ble_eq_true rfl⟩) EB_X hE hK hP hD hS hA 3 (ci := 5) rfl rfl rfl rfl hl.1 rfl (Nat.le_of_ble_eq_true rfl) dX6_speechRead_29 ⟨Nat.zero_le _, Nat.zero_le _⟩ (fun H locs hP hD hS => ?_)
      obtain ⟨hiv3, h⟩ := ar_use h
      refine lX_draft_letterMarks hx hb hK hP hiv3 dX6_speechRead_32 ?_
      refine lv_topi (fun v3 ev3 => ?_)
      have h := h v3 ev3
      refine lv_istore (lv' := [(5, .int v3), (0, .ref (a 3)), (1, .long x1), (3, .int x3), (4, .int x4)]) hx hb dX6_speechRead_33 hl (by decide) rfl (fun ls hl => ?_)
      refine lv_iload hx hb dX6_speechRead_35 (lv_at hl 0 rfl) ?_
      refine lv_bipush (v := -2) hx hb dX6_speechRead_37 (by decide) ?_
      refine lv_icmp_eq (tgt := 53) hx hb dX6_speechRead_39 (by decide) (fun c4 => ?_) (fun c4 => ?_)
      · have h := it_use c4 h
        refine lv_iinc (v := x4 + 1) (lv' := [(4, .int (x4 + 1)), (5, .int v3), (0, .ref (a 3)), (1, .long x1), (3, .int x3)]) hx hb dX6_speechRead_53 hl (k := 4) rfl rfl (by decide) rfl (fun ls hl => ?_)
        refine lv_goto (tgt := 10) hx hb dX6_speechRead_56 (by decide) ?_
        exact ih x1 x3 (x4 + 1) _ _ ls h hP hD hS (lv_sub hl [2, 3, 4, 0] rfl)
      · have h := ie_use c4 h
        refine lv_lload_n hx hb dX6_speechRead_42 rfl (lv_at hl 2 rfl) ?_
        refine lv_iload_n hx hb dX6_speechRead_43 rfl (lv_at hl 3 rfl) ?_
        refine lv_iload hx hb dX6_speechRead_44 (lv_at hl 0 rfl) ?_
        obtain ⟨v5, hc, h⟩ := bd1_use h
        refine cs_l (As := [.long x1, .int x3, .int v3]) (rest := []) ⟨hx, hb, hml, hown, hts⟩ (kX3_with l n x1 x3 v3 v5 hc) (va_cwS 3 hts gX6_speechRead_X3_with rfl rfl rfl (by decide +kernel) ⟨Nat.le_of_ble_eq_true rfl, Nat.le_of_ble_eq_true rfl⟩) hP hS rfl hl.1 rfl (Nat.le_of_ble_eq_true rfl) dX6_speechRead_46 ⟨Nat.zero_le _, Nat.zero_le _⟩ (fun H locs hP hS => ?_)
        refine lv_lstore_n (lv' := [(1, .long v5), (5, .int v3), (0, .ref (a 3)), (3, .int x3), (4, .int x4)]) hx hb dX6_speechRead_49 rfl hl (by decide) rfl (fun ls hl => ?_)
        refine lv_iinc (v := x3 + 1) (lv' := [(3, .int (x3 + 1)), (1, .long v5), (5, .int v3), (0, .ref (a 3)), (4, .int x4)]) hx hb dX6_speechRead_50 hl (k := 3) rfl rfl (by decide) rfl (fun ls hl => ?_)
        refine lv_iinc (v := x4 + 1) (lv' := [(4, .int (x4 + 1)), (3, .int (x3 + 1)), (1, .long v5), (5, .int v3), (0, .ref (a 3))]) hx hb dX6_speechRead_53 hl (k := 4) rfl rfl (by decide) rfl (fun ls hl => ?_)
        refine lv_goto (tgt := 10) hx hb dX6_speechRead_56 (by decide) ?_
        exact ih v5 (x3 + 1) (x4 + 1) _ _ ls h hP hD hS (lv_sub hl [4, 2, 1, 0] rfl)
theorem kX6_speechRead_p10 {p : Program} {l : Launch} {e : Env} {s : State} {m : MethodId} {args : Array Value} {below : List Frame} {meth : Method} {c : Code} {A : Nat → Prop} (dC : Nat → ClassId) (dI : Nat → Nat → Nat) (cB cI cJ cZ : ClassId) (a : Nat → Nat) (adK adV : Nat → Nat) (C0 : cxt cX6_speechRead (some .long) 6 RX6 wsX6_speechRead (dC, dI) (tyz cB cI cJ cZ) (E_X adK adV) A p s m args meth c) (n : Nat) (ww_latestFault : Int32) (tp_bytes : Nat → Int32) (tp_size : Int32) (rd_fault : Int32) (rd_faultPlace : Int32) (rd_kind : Int32) (rd_start : Int32) (rd_at : Int32) (rd_number : Int32) (dr_letterMarks : Nat → Int32) (dr_names : Nat → Int64) (dr_spelled : Nat → Int32) (dr_rows : Nat → Int64) (dr_alike : Nat → Int32) (dr_near : Nat → Int32) (dr_asks : Nat → Int32) (dr_letters : Int32) (dr_words : Int32) (dr_askCount : Int32) (sh_lanes : Nat → Int32) (sh_sizes : Nat → Int32) (sh_cells : Nat → Int32) (la_xs : Nat → Int32) (la_ys : Nat → Int32) (la_heights : Nat → Int32) (la_ridgeXs : Nat → Int32) (la_ridgeHeights : Nat → Int32) (la_way : Nat → Int32) (la_blurs : Nat → Int32) (la_steps : Nat → Int32) (la_places : Int32) (la_ridges : Int32) (la_wayBlur : Int32) (la_wayLength : Int32) (bk_times : Nat → Int32) (bk_froms : Nat → Int32) (bk_asks : Nat → Int32) (bk_words : Nat → Int32) (bk_firsts : Nat → Int32) (bk_lies : Nat → Int32) (bk_held : Nat → Int32) (bk_size : Int32) (nu_learned : Nat → Int32) (nu_size : Int32) (to_letterMarks : Nat → Int32) (to_names : Nat → Int64) (to_spelled : Nat → Int32) (to_rows : Nat → Int64) (to_alike : Nat → Int32) (to_near : Nat → Int32) (to_asks : Nat → Int32) (to_letters : Int32) (to_words : Int32) (to_askCount : Int32)  (x1 : Int64) (x3 : Int32) (x4 : Int32) (r0 : Int64)  (k : Nat) (H : Heap) (locs : List Loc) (ls : Array Slot) : fX6_speechRead_p10 n tp_bytes rd_at dr_letterMarks k x1 x3 x4 = some r0 → va_P (dC, dI) vwCl (wX cB cI cJ cZ a (a 35) (a 4) ww_latestFault tp_bytes tp_size rd_fault rd_faultPlace rd_kind rd_start rd_at rd_number dr_letterMarks dr_names dr_spelled dr_rows dr_alike dr_near dr_asks dr_letters dr_words dr_askCount sh_lanes sh_sizes sh_cells la_xs la_ys la_heights la_ridgeXs la_ridgeHeights la_way la_blurs la_steps la_places la_ridges la_wayBlur la_wayLength bk_times bk_froms bk_asks bk_words bk_firsts bk_lies bk_held bk_size nu_learned nu_size to_letterMarks to_names to_spelled to_rows to_alike to_near to_asks to_letters to_words to_askCount) H → va_D A (wX cB cI cJ cZ a (a 35) (a 4) ww_latestFault tp_bytes tp_size rd_fault rd_faultPlace rd_kind rd_start rd_at rd_number dr_letterMarks dr_names dr_spelled dr_rows dr_alike dr_near dr_asks dr_letters dr_words dr_askCount sh_lanes sh_sizes sh_cells la_xs la_ys la_heights la_ridgeXs la_ridgeHeights la_way la_blurs la_steps la_places la_ridges la_wayBlur la_wayLength bk_times bk_froms bk_asks bk_words bk_firsts bk_lies bk_held bk_size nu_learned nu_size to_letterMarks to_names to_spelled to_rows to_alike to_near to_asks to_letters to_words to_askCount) → va_S A s.heap H locs → lv_has ls 6 [(0, .ref (a 3)), (1, .long x1), (3, .int x3), (4, .int x4)] → W p l e { frames := 1, cells := 0, slots := 0, locals := 23 } s m args below meth c H locs 0 0 (MQ below (gL (dC, dI) (tyz cB cI cJ cZ) (wX cB cI cJ cZ a (a 35) (a 4) ww_latestFault tp_bytes tp_size rd_fault rd_faultPlace rd_kind rd_start rd_at rd_number dr_letterMarks dr_names dr_spelled dr_rows dr_alike dr_near dr_asks dr_letters dr_words dr_askCount sh_lanes sh_sizes sh_cells la_xs la_ys la_heights la_ridgeXs la_ridgeHeights la_way la_blurs la_steps la_places la_ridges la_wayBlur la_wayLength bk_times bk_froms bk_asks bk_words bk_firsts bk_lies bk_held bk_size nu_learned nu_size to_letterMarks to_names to_spelled to_rows to_alike to_near to_asks to_letters to_words to_askCount) A r0) args s 0 0 A) (F0 m 10 ls []) :=
  kX6_speechRead_p10_r dC dI cB cI cJ cZ a adK adV C0 n ww_latestFault tp_bytes tp_size rd_fault rd_faultPlace rd_kind rd_start rd_at rd_number dr_letterMarks dr_names dr_spelled dr_rows dr_alike dr_near dr_asks dr_letters dr_words dr_askCount sh_lanes sh_sizes sh_cells la_xs la_ys la_heights la_ridgeXs la_ridgeHeights la_way la_blurs la_steps la_places la_ridges la_wayBlur la_wayLength bk_times bk_froms bk_asks bk_words bk_firsts bk_lies bk_held bk_size nu_learned nu_size to_letterMarks to_names to_spelled to_rows to_alike to_near to_asks to_letters to_words to_askCount  r0  k x1 x3 x4 H locs ls
set_option maxHeartbeats 4000000 in
set_option maxRecDepth 100000 in
theorem kX6_speechRead (l : Launch) (n : Nat) (dC : Nat → ClassId) (dI : Nat → Nat → Nat) (cB cI cJ cZ : ClassId) (a : Nat → Nat) (adK adV : Nat → Nat) (sz : Nat) (ww_latestFault : Int32) (tp_bytes : Nat → Int32) (tp_size : Int32) (rd_fault : Int32) (rd_faultPlace : Int32) (rd_kind : Int32) (rd_start : Int32) (rd_at : Int32) (rd_number : Int32) (dr_letterMarks : Nat → Int32) (dr_names : Nat → Int64) (dr_spelled : Nat → Int32) (dr_rows : Nat → Int64) (dr_alike : Nat → Int32) (dr_near : Nat → Int32) (dr_asks : Nat → Int32) (dr_letters : Int32) (dr_words : Int32) (dr_askCount : Int32) (sh_lanes : Nat → Int32) (sh_sizes : Nat → Int32) (sh_cells : Nat → Int32) (la_xs : Nat → Int32) (la_ys : Nat → Int32) (la_heights : Nat → Int32) (la_ridgeXs : Nat → Int32) (la_ridgeHeights : Nat → Int32) (la_way : Nat → Int32) (la_blurs : Nat → Int32) (la_steps : Nat → Int32) (la_places : Int32) (la_ridges : Int32) (la_wayBlur : Int32) (la_wayLength : Int32) (bk_times : Nat → Int32) (bk_froms : Nat → Int32) (bk_asks : Nat → Int32) (bk_words : Nat → Int32) (bk_firsts : Nat → Int32) (bk_lies : Nat → Int32) (bk_held : Nat → Int32) (bk_size : Int32) (nu_learned : Nat → Int32) (nu_size : Int32) (to_letterMarks : Nat → Int32) (to_names : Nat → Int64) (to_spelled : Nat → Int32) (to_rows : Nat → Int64) (to_alike : Nat → Int32) (to_near : Nat → Int32) (to_asks : Nat → Int32) (to_letters : Int32) (to_words : Int32) (to_askCount : Int32)  (r0 : Int64) (h : fX6_speechRead n tp_bytes rd_start rd_at dr_letterMarks = some r0) : Met l yX6_speechRead wsX6_speechRead ({ frames := 1, cells := 0, slots := 0, locals := 23 }) (gP (dC, dI) (tyz cB cI cJ cZ) (E_X adK adV) (wX cB cI cJ cZ a (a 35) (a 4) ww_latestFault tp_bytes tp_size rd_fault rd_faultPlace rd_kind rd_start rd_at rd_number dr_letterMarks dr_names dr_spelled dr_rows dr_alike dr_near dr_asks dr_letters dr_words dr_askCount sh_lanes sh_sizes sh_cells la_xs la_ys la_heights la_ridgeXs la_ridgeHeights la_way la_blurs la_steps la_places la_ridges la_wayBlur la_wayLength bk_times bk_froms bk_asks bk_words bk_firsts bk_lies bk_held bk_size nu_learned nu_size to_letterMarks to_names to_spelled to_rows to_alike to_near to_asks to_letters to_words to_askCount) sz [.ref (a 3)]) (gL (dC, dI) (tyz cB cI cJ cZ) (wX cB cI cJ cZ a (a 35) (a 4) ww_latestFault tp_bytes tp_size rd_fault rd_faultPlace rd_kind rd_start rd_at rd_number dr_letterMarks dr_names dr_spelled dr_rows dr_alike dr_near dr_asks dr_letters dr_words dr_askCount sh_lanes sh_sizes sh_cells la_xs la_ys la_heights la_ridgeXs la_ridgeHeights la_way la_blurs la_steps la_places la_ridges la_wayBlur la_wayLength bk_times bk_froms bk_asks bk_words bk_firsts bk_lies bk_held bk_size nu_learned nu_size to_letterMarks to_names to_spelled to_rows to_alike to_near to_asks to_letters to_words to_askCount) (va_A (wX cB cI cJ cZ a (a 35) (a 4) ww_latestFault tp_bytes tp_size rd_fault rd_faultPlace rd_kind rd_start rd_at rd_number dr_letterMarks dr_names dr_spelled dr_rows dr_alike dr_near dr_asks dr_letters dr_words dr_askCount sh_lanes sh_sizes sh_cells la_xs la_ys la_heights la_ridgeXs la_ridgeHeights la_way la_blurs la_steps la_places la_ridges la_wayBlur la_wayLength bk_times bk_froms bk_asks bk_words bk_firsts bk_lies bk_held bk_size nu_learned nu_size to_letterMarks to_names to_spelled to_rows to_alike to_near to_asks to_letters to_words to_askCount) sz) r0) 0 0 (va_A (wX cB cI cJ cZ a (a 35) (a 4) ww_latestFault tp_bytes tp_size rd_fault rd_faultPlace rd_kind rd_start rd_at rd_number dr_letterMarks dr_names dr_spelled dr_rows dr_alike dr_near dr_asks dr_letters dr_words dr_askCount sh_lanes sh_sizes sh_cells la_xs la_ys la_heights la_ridgeXs la_ridgeHeights la_way la_blurs la_steps la_places la_ridges la_wayBlur la_wayLength bk_times bk_froms bk_asks bk_words bk_firsts bk_lies bk_held bk_size nu_learned nu_size to_letterMarks to_names to_spelled to_rows to_alike to_near to_asks to_letters to_words to_askCount) sz) := by
  refine Met.ofW (cc := cX6_speechRead) (maxL := 6) (ret := (some .long)) (by decide) rfl ?_
  intro p e s m args below meth c s₁ B hml hv
  obtain ⟨rfl, hsz, hP, hK, hD0, hE⟩ := hv
  have hx := B.exec
  have hb := B.bytes
  have hr := B.returns
  have hts := atoms_spec (ws := wsX6_speechRead) B.pre
  have hown : s.vm.findClass RX6 = some m.cls := findClass_of_methodNamed B.named
  have hlocks := B.notSynchronized
  subst hsz
  have hD := hD0.self (sz := s.heap.size)
  have hA : ∀ q : Nat, s.heap.size ≤ q → va_A (wX cB cI cJ cZ a (a 35) (a 4) ww_latestFault tp_bytes tp_size rd_fault rd_faultPlace rd_kind rd_start rd_at rd_number dr_letterMarks dr_names dr_spelled dr_rows dr_alike dr_near dr_asks dr_letters dr_words dr_askCount sh_lanes sh_sizes sh_cells la_xs la_ys la_heights la_ridgeXs la_ridgeHeights la_way la_blurs la_steps la_places la_ridges la_wayBlur la_wayLength bk_times bk_froms bk_asks bk_words bk_firsts bk_lies bk_held bk_size nu_learned nu_size to_letterMarks to_names to_spelled to_rows to_alike to_near to_asks to_letters to_words to_askCount) s.heap.size q := fun q h => Or.inr h
  generalize va_A (wX cB cI cJ cZ a (a 35) (a 4) ww_latestFault tp_bytes tp_size rd_fault rd_faultPlace rd_kind rd_start rd_at rd_number dr_letterMarks dr_names dr_spelled dr_rows dr_alike dr_near dr_asks dr_letters dr_words dr_askCount sh_lanes sh_sizes sh_cells la_xs la_ys la_heights la_ridgeXs la_ridgeHeights la_way la_blurs la_steps la_places la_ridges la_wayBlur la_wayLength bk_times bk_froms bk_asks bk_words bk_firsts bk_lies bk_held bk_size nu_learned nu_size to_letterMarks to_names to_spelled to_rows to_alike to_near to_asks to_letters to_words to_askCount) s.heap.size = A at hD hA hE ⊢
  have hS : va_S A s.heap s.heap [] := va_S.rf
  have C0 : cxt cX6_speechRead (some .long) 6 RX6 wsX6_speechRead (dC, dI) (tyz cB cI cJ cZ) (E_X adK adV) A p s m ([.ref (a 3)] : List Value).toArray meth c := ⟨hx, hb, hr, hml, hown, hts, hlocks, hK, hA, hE⟩
  have hl := lv_entry ([.ref (a 3)]) (n := 6) (Nat.le_of_ble_eq_true rfl)
  rw [lg_entry_eq]
  generalize (lg_sl ([.ref (a 3)]) ++ List.replicate (6 - (lg_sl ([.ref (a 3)])).length) Slot.unset).toArray = ls at hl ⊢
  have hl : lv_has ls 6 [(0, .ref (a 3))] := hl
  have hw0 := hts (.fieldLink RX6 51 "WhistledWords$TextReader" "start" "I") (by decide +kernel)
  have hnX6 : ∀ w ∈ u_ws RX6 TX6 8, w ∈ wsX6_speechRead := fun _ h => List.mem_cons_of_mem _ (List.mem_append_left _ (List.mem_append_left _ (List.mem_append_right _ h)))
  unfold fX6_speechRead at h
  refine lv_lconst (v := 0) hx hb dX6_speechRead_0 (by decide) ?_
  refine lv_lstore_n (lv' := [(1, .long (0 : Int64)), (0, .ref (a 3))]) hx hb dX6_speechRead_1 rfl hl (by decide) rfl (fun ls hl => ?_)
  refine lv_iconst (v := 0) hx hb dX6_speechRead_2 (by decide) ?_
  refine lv_istore_n (lv' := [(3, .int (0 : Int32)), (1, .long (0 : Int64)), (0, .ref (a 3))]) hx hb dX6_speechRead_3 rfl hl (by decide) rfl (fun ls hl => ?_)
  refine lv_aload_n hx hb dX6_speechRead_4 rfl (lv_at hl 2 rfl) ?_
  refine gX_reader_start hx hb hts hnX6 hown hK hP hw0 dX6_speechRead_5 ?_
  refine lv_istore (lv' := [(4, .int rd_start), (3, .int (0 : Int32)), (1, .long (0 : Int64)), (0, .ref (a 3))]) hx hb dX6_speechRead_8 hl (by decide) rfl (fun ls hl => ?_)
  exact kX6_speechRead_p10 dC dI cB cI cJ cZ a adK adV C0 n ww_latestFault tp_bytes tp_size rd_fault rd_faultPlace rd_kind rd_start rd_at rd_number dr_letterMarks dr_names dr_spelled dr_rows dr_alike dr_near dr_asks dr_letters dr_words dr_askCount sh_lanes sh_sizes sh_cells la_xs la_ys la_heights la_ridgeXs la_ridgeHeights la_way la_blurs la_steps la_places la_ridges la_wayBlur la_wayLength bk_times bk_froms bk_asks bk_words bk_firsts bk_lies bk_held bk_size nu_learned nu_size to_letterMarks to_names to_spelled to_rows to_alike to_near to_asks to_letters to_words to_askCount (0 : Int64) (0 : Int32) rd_start r0  n _ _ ls h hP hD hS (lv_sub hl [3, 2, 1, 0] rfl)
set_option maxHeartbeats 4000000 in
set_option maxRecDepth 100000 in
theorem kX7_tellWord_D (l : Launch) (n : Nat) (dC : Nat → ClassId) (dI : Nat → Nat → Nat) (cB cI cJ cZ : ClassId) (a : Nat → Nat) (adK adV : Nat → Nat) (sz : Nat) (ww_latestFault : Int32) (tp_bytes : Nat → Int32) (tp_size : Int32) (rd_fault : Int32) (rd_faultPlace : Int32) (rd_kind : Int32) (rd_start : Int32) (rd_at : Int32) (rd_number : Int32) (dr_letterMarks : Nat → Int32) (dr_names : Nat → Int64) (dr_spelled : Nat → Int32) (dr_rows : Nat → Int64) (dr_alike : Nat → Int32) (dr_near : Nat → Int32) (dr_asks : Nat → Int32) (dr_letters : Int32) (dr_words : Int32) (dr_askCount : Int32) (sh_lanes : Nat → Int32) (sh_sizes : Nat → Int32) (sh_cells : Nat → Int32) (la_xs : Nat → Int32) (la_ys : Nat → Int32) (la_heights : Nat → Int32) (la_ridgeXs : Nat → Int32) (la_ridgeHeights : Nat → Int32) (la_way : Nat → Int32) (la_blurs : Nat → Int32) (la_steps : Nat → Int32) (la_places : Int32) (la_ridges : Int32) (la_wayBlur : Int32) (la_wayLength : Int32) (bk_times : Nat → Int32) (bk_froms : Nat → Int32) (bk_asks : Nat → Int32) (bk_words : Nat → Int32) (bk_firsts : Nat → Int32) (bk_lies : Nat → Int32) (bk_held : Nat → Int32) (bk_size : Int32) (nu_learned : Nat → Int32) (nu_size : Int32) (to_letterMarks : Nat → Int32) (to_names : Nat → Int64) (to_spelled : Nat → Int32) (to_rows : Nat → Int64) (to_alike : Nat → Int32) (to_near : Nat → Int32) (to_asks : Nat → Int32) (to_letters : Int32) (to_words : Int32) (to_askCount : Int32) (x1 : Int64) (x3 : Int32) (x4 : Int64) (z_dr_names : Nat → Int64) (z_dr_spelled : Nat → Int32) (z_dr_rows : Nat → Int64) (z_dr_words : Int32) (h : fX7_tellWord n dr_names dr_spelled dr_rows dr_words x1 x3 x4 = some (z_dr_names, z_dr_spelled, z_dr_rows, z_dr_words)) : Met l yX7_tellWord wsX7_tellWord ({ frames := 0, cells := 0, slots := 0, locals := 0 }) (gP (dC, dI) (tyz cB cI cJ cZ) (E_X adK adV) (wX cB cI cJ cZ a (a 35) (a 4) ww_latestFault tp_bytes tp_size rd_fault rd_faultPlace rd_kind rd_start rd_at rd_number dr_letterMarks dr_names dr_spelled dr_rows dr_alike dr_near dr_asks dr_letters dr_words dr_askCount sh_lanes sh_sizes sh_cells la_xs la_ys la_heights la_ridgeXs la_ridgeHeights la_way la_blurs la_steps la_places la_ridges la_wayBlur la_wayLength bk_times bk_froms bk_asks bk_words bk_firsts bk_lies bk_held bk_size nu_learned nu_size to_letterMarks to_names to_spelled to_rows to_alike to_near to_asks to_letters to_words to_askCount) sz [.ref (a 4), .long x1, .int x3, .long x4]) (gV (dC, dI) (tyz cB cI cJ cZ) (wX cB cI cJ cZ a (a 35) (a 4) ww_latestFault tp_bytes tp_size rd_fault rd_faultPlace rd_kind rd_start rd_at rd_number dr_letterMarks z_dr_names z_dr_spelled z_dr_rows dr_alike dr_near dr_asks dr_letters z_dr_words dr_askCount sh_lanes sh_sizes sh_cells la_xs la_ys la_heights la_ridgeXs la_ridgeHeights la_way la_blurs la_steps la_places la_ridges la_wayBlur la_wayLength bk_times bk_froms bk_asks bk_words bk_firsts bk_lies bk_held bk_size nu_learned nu_size to_letterMarks to_names to_spelled to_rows to_alike to_near to_asks to_letters to_words to_askCount) (va_A (wX cB cI cJ cZ a (a 35) (a 4) ww_latestFault tp_bytes tp_size rd_fault rd_faultPlace rd_kind rd_start rd_at rd_number dr_letterMarks dr_names dr_spelled dr_rows dr_alike dr_near dr_asks dr_letters dr_words dr_askCount sh_lanes sh_sizes sh_cells la_xs la_ys la_heights la_ridgeXs la_ridgeHeights la_way la_blurs la_steps la_places la_ridges la_wayBlur la_wayLength bk_times bk_froms bk_asks bk_words bk_firsts bk_lies bk_held bk_size nu_learned nu_size to_letterMarks to_names to_spelled to_rows to_alike to_near to_asks to_letters to_words to_askCount) sz)) 0 0 (va_A (wX cB cI cJ cZ a (a 35) (a 4) ww_latestFault tp_bytes tp_size rd_fault rd_faultPlace rd_kind rd_start rd_at rd_number dr_letterMarks dr_names dr_spelled dr_rows dr_alike dr_near dr_asks dr_letters dr_words dr_askCount sh_lanes sh_sizes sh_cells la_xs la_ys la_heights la_ridgeXs la_ridgeHeights la_way la_blurs la_steps la_places la_ridges la_wayBlur la_wayLength bk_times bk_froms bk_asks bk_words bk_firsts bk_lies bk_held bk_size nu_learned nu_size to_letterMarks to_names to_spelled to_rows to_alike to_near to_asks to_letters to_words to_askCount) sz) := by
  refine Met.ofW (cc := cX7_tellWord) (maxL := 6) (ret := none) (by decide) rfl ?_
  intro p e s m args below meth c s₁ B hml hv
  obtain ⟨rfl, hsz, hP, hK, hD0, hE⟩ := hv
  have hx := B.exec
  have hb := B.bytes
  have hr := B.returns
  have hts := atoms_spec (ws := wsX7_tellWord) B.pre
  have hown : s.vm.findClass RX7 = some m.cls := findClass_of_methodNamed B.named
  have hlocks := B.notSynchronized
  subst hsz
  have hD := hD0.self (sz := s.heap.size)
  have hA : ∀ q : Nat, s.heap.size ≤ q → va_A (wX cB cI cJ cZ a (a 35) (a 4) ww_latestFault tp_bytes tp_size rd_fault rd_faultPlace rd_kind rd_start rd_at rd_number dr_letterMarks dr_names dr_spelled dr_rows dr_alike dr_near dr_asks dr_letters dr_words dr_askCount sh_lanes sh_sizes sh_cells la_xs la_ys la_heights la_ridgeXs la_ridgeHeights la_way la_blurs la_steps la_places la_ridges la_wayBlur la_wayLength bk_times bk_froms bk_asks bk_words bk_firsts bk_lies bk_held bk_size nu_learned nu_size to_letterMarks to_names to_spelled to_rows to_alike to_near to_asks to_letters to_words to_askCount) s.heap.size q := fun q h => Or.inr h
  generalize va_A (wX cB cI cJ cZ a (a 35) (a 4) ww_latestFault tp_bytes tp_size rd_fault rd_faultPlace rd_kind rd_start rd_at rd_number dr_letterMarks dr_names dr_spelled dr_rows dr_alike dr_near dr_asks dr_letters dr_words dr_askCount sh_lanes sh_sizes sh_cells la_xs la_ys la_heights la_ridgeXs la_ridgeHeights la_way la_blurs la_steps la_places la_ridges la_wayBlur la_wayLength bk_times bk_froms bk_asks bk_words bk_firsts bk_lies bk_held bk_size nu_learned nu_size to_letterMarks to_names to_spelled to_rows to_alike to_near to_asks to_letters to_words to_askCount) s.heap.size = A at hD hA hE ⊢
  have hS : va_S A s.heap s.heap [] := va_S.rf
  have C0 : cxt cX7_tellWord none 6 RX7 wsX7_tellWord (dC, dI) (tyz cB cI cJ cZ) (E_X adK adV) A p s m ([.ref (a 4), .long x1, .int x3, .long x4] : List Value).toArray meth c := ⟨hx, hb, hr, hml, hown, hts, hlocks, hK, hA, hE⟩
  have hl := lv_entry ([.ref (a 4), .long x1, .int x3, .long x4]) (n := 6) (Nat.le_of_ble_eq_true rfl)
  rw [lg_entry_eq]
  generalize (lg_sl ([.ref (a 4), .long x1, .int x3, .long x4]) ++ List.replicate (6 - (lg_sl ([.ref (a 4), .long x1, .int x3, .long x4])).length) Slot.unset).toArray = ls at hl ⊢
  have hl : lv_has ls 6 [(0, .ref (a 4)), (1, .long x1), (3, .int x3), (4, .long x4)] := hl
  have hw0 := hts (.fieldLink RX7 21 "WhistledWords$Tongue" "names" "[J") (by decide +kernel)
  have hw1 := hts (.fieldLink RX7 44 "WhistledWords$Tongue" "words" "I") (by decide +kernel)
  have hw2 := hts (.fieldLink RX7 25 "WhistledWords$Tongue" "spelled" "[I") (by decide +kernel)
  have hw3 := hts (.fieldLink RX7 28 "WhistledWords$Tongue" "rows" "[J") (by decide +kernel)
  have hnX7 : ∀ w ∈ u_ws RX7 TX7 10, w ∈ wsX7_tellWord := fun _ h => List.mem_cons_of_mem _ (List.mem_append_right _ h)
  unfold fX7_tellWord at h
  refine lv_aload_n hx hb dX7_tellWord_0 rfl (lv_at hl 0 rfl) ?_
  refine gX_draft_names hx hb hts hnX7 hown hK hP hw0 dX7_tellWord_1 ?_
  refine lv_aload_n hx hb dX7_tellWord_4 rfl (lv_at hl 0 rfl) ?_
  refine gX_draft_words hx hb hts hnX7 hown hK hP hw1 dX7_tellWord_5 ?_
  refine lv_lload_n hx hb dX7_tellWord_8 rfl (lv_at hl 1 rfl) ?_
  obtain ⟨hif1, f1, ef1, h⟩ := awL_use h
  refine sX_draft_names hx hb hK hP hD hS hif1 ef1 dX7_tellWord_9 (fun H locs hP hD hS => ?_)
  refine lv_aload_n hx hb dX7_tellWord_10 rfl (lv_at hl 0 rfl) ?_
  refine gX_draft_spelled hx hb hts hnX7 hown hK hP hw2 dX7_tellWord_11 ?_
  refine lv_aload_n hx hb dX7_tellWord_14 rfl (lv_at hl 0 rfl) ?_
  refine gX_draft_words hx hb hts hnX7 hown hK hP hw1 dX7_tellWord_15 ?_
  refine lv_iload_n hx hb dX7_tellWord_18 rfl (lv_at hl 2 rfl) ?_
  obtain ⟨hif2, f2, ef2, h⟩ := aw_use h
  refine sX_draft_spelled hx hb hK hP hD hS hif2 ef2 dX7_tellWord_19 (fun H locs hP hD hS => ?_)
  refine lv_aload_n hx hb dX7_tellWord_20 rfl (lv_at hl 0 rfl) ?_
  refine gX_draft_rows hx hb hts hnX7 hown hK hP hw3 dX7_tellWord_21 ?_
  refine lv_aload_n hx hb dX7_tellWord_24 rfl (lv_at hl 0 rfl) ?_
  refine gX_draft_words hx hb hts hnX7 hown hK hP hw1 dX7_tellWord_25 ?_
  refine lv_lload hx hb dX7_tellWord_28 (lv_at hl 3 rfl) ?_
  obtain ⟨hif3, f3, ef3, h⟩ := awL_use h
  refine sX_draft_rows hx hb hK hP hD hS hif3 ef3 dX7_tellWord_30 (fun H locs hP hD hS => ?_)
  refine lv_aload_n hx hb dX7_tellWord_31 rfl (lv_at hl 0 rfl) ?_
  refine lv_dup hx hb dX7_tellWord_32 rfl ?_
  refine gX_draft_words hx hb hts hnX7 hown hK hP hw1 dX7_tellWord_33 ?_
  refine lv_iconst (v := 1) hx hb dX7_tellWord_36 (by decide) ?_
  refine lv_iadd hx hb dX7_tellWord_37 ?_
  refine lv_topi (fun v4 ev4 => ?_)
  have h := nm_use ev4 h
  refine pX_draft_words hx hb hts hnX7 hown hK hP hD hS hw1 dX7_tellWord_38 (fun H locs hP hD hS => ?_)
  obtain ⟨ez0, ez1, ez2, ez3⟩ := rt4_use h
  subst ez0
  subst ez1
  subst ez2
  subst ez3
  exact re_v hx hb hr hlocks hK hP hD hS dX7_tellWord_41
set_option maxHeartbeats 4000000 in
set_option maxRecDepth 100000 in
theorem kX6_readWord (l : Launch) (n : Nat) (dC : Nat → ClassId) (dI : Nat → Nat → Nat) (cB cI cJ cZ : ClassId) (a : Nat → Nat) (adK adV : Nat → Nat) (sz : Nat) (ww_latestFault : Int32) (tp_bytes : Nat → Int32) (tp_size : Int32) (rd_fault : Int32) (rd_faultPlace : Int32) (rd_kind : Int32) (rd_start : Int32) (rd_at : Int32) (rd_number : Int32) (dr_letterMarks : Nat → Int32) (dr_names : Nat → Int64) (dr_spelled : Nat → Int32) (dr_rows : Nat → Int64) (dr_alike : Nat → Int32) (dr_near : Nat → Int32) (dr_asks : Nat → Int32) (dr_letters : Int32) (dr_words : Int32) (dr_askCount : Int32) (sh_lanes : Nat → Int32) (sh_sizes : Nat → Int32) (sh_cells : Nat → Int32) (la_xs : Nat → Int32) (la_ys : Nat → Int32) (la_heights : Nat → Int32) (la_ridgeXs : Nat → Int32) (la_ridgeHeights : Nat → Int32) (la_way : Nat → Int32) (la_blurs : Nat → Int32) (la_steps : Nat → Int32) (la_places : Int32) (la_ridges : Int32) (la_wayBlur : Int32) (la_wayLength : Int32) (bk_times : Nat → Int32) (bk_froms : Nat → Int32) (bk_asks : Nat → Int32) (bk_words : Nat → Int32) (bk_firsts : Nat → Int32) (bk_lies : Nat → Int32) (bk_held : Nat → Int32) (bk_size : Int32) (nu_learned : Nat → Int32) (nu_size : Int32) (to_letterMarks : Nat → Int32) (to_names : Nat → Int64) (to_spelled : Nat → Int32) (to_rows : Nat → Int64) (to_alike : Nat → Int32) (to_near : Nat → Int32) (to_asks : Nat → Int32) (to_letters : Int32) (to_words : Int32) (to_askCount : Int32)  (r0 : Int32) (z_rd_fault : Int32) (z_rd_faultPlace : Int32) (z_rd_kind : Int32) (z_rd_start : Int32) (z_rd_at : Int32) (z_rd_number : Int32) (z_dr_names : Nat → Int64) (z_dr_spelled : Nat → Int32) (z_dr_rows : Nat → Int64) (z_dr_words : Int32) (h : fX6_readWord n tp_bytes tp_size rd_fault rd_faultPlace rd_kind rd_start rd_at rd_number dr_letterMarks dr_names dr_spelled dr_rows dr_words = some (r0, z_rd_fault, z_rd_faultPlace, z_rd_kind, z_rd_start, z_rd_at, z_rd_number, z_dr_names, z_dr_spelled, z_dr_rows, z_dr_words)) : Met l yX6_readWord wsX6_readWord ({ frames := 2, cells := 0, slots := 0, locals := 48 }) (gP (dC, dI) (tyz cB cI cJ cZ) (E_X adK adV) (wX cB cI cJ cZ a (a 35) (a 4) ww_latestFault tp_bytes tp_size rd_fault rd_faultPlace rd_kind rd_start rd_at rd_number dr_letterMarks dr_names dr_spelled dr_rows dr_alike dr_near dr_asks dr_letters dr_words dr_askCount sh_lanes sh_sizes sh_cells la_xs la_ys la_heights la_ridgeXs la_ridgeHeights la_way la_blurs la_steps la_places la_ridges la_wayBlur la_wayLength bk_times bk_froms bk_asks bk_words bk_firsts bk_lies bk_held bk_size nu_learned nu_size to_letterMarks to_names to_spelled to_rows to_alike to_near to_asks to_letters to_words to_askCount) sz [.ref (a 3)]) (gI (dC, dI) (tyz cB cI cJ cZ) (wX cB cI cJ cZ a (a 35) (a 4) ww_latestFault tp_bytes tp_size z_rd_fault z_rd_faultPlace z_rd_kind z_rd_start z_rd_at z_rd_number dr_letterMarks z_dr_names z_dr_spelled z_dr_rows dr_alike dr_near dr_asks dr_letters z_dr_words dr_askCount sh_lanes sh_sizes sh_cells la_xs la_ys la_heights la_ridgeXs la_ridgeHeights la_way la_blurs la_steps la_places la_ridges la_wayBlur la_wayLength bk_times bk_froms bk_asks bk_words bk_firsts bk_lies bk_held bk_size nu_learned nu_size to_letterMarks to_names to_spelled to_rows to_alike to_near to_asks to_letters to_words to_askCount) (va_A (wX cB cI cJ cZ a (a 35) (a 4) ww_latestFault tp_bytes tp_size rd_fault rd_faultPlace rd_kind rd_start rd_at rd_number dr_letterMarks dr_names dr_spelled dr_rows dr_alike dr_near dr_asks dr_letters dr_words dr_askCount sh_lanes sh_sizes sh_cells la_xs la_ys la_heights la_ridgeXs la_ridgeHeights la_way la_blurs la_steps la_places la_ridges la_wayBlur la_wayLength bk_times bk_froms bk_asks bk_words bk_firsts bk_lies bk_held bk_size nu_learned nu_size to_letterMarks to_names to_spelled to_rows to_alike to_near to_asks to_letters to_words to_askCount) sz) r0) 0 0 (va_A (wX cB cI cJ cZ a (a 35) (a 4) ww_latestFault tp_bytes tp_size rd_fault rd_faultPlace rd_kind rd_start rd_at rd_number dr_letterMarks dr_names dr_spelled dr_rows dr_alike dr_near dr_asks dr_letters dr_words dr_askCount sh_lanes sh_sizes sh_cells la_xs la_ys la_heights la_ridgeXs la_ridgeHeights la_way la_blurs la_steps la_places la_ridges la_wayBlur la_wayLength bk_times bk_froms bk_asks bk_words bk_firsts bk_lies bk_held bk_size nu_learned nu_size to_letterMarks to_names to_spelled to_rows to_alike to_near to_asks to_letters to_words to_askCount) sz) := by
  refine Met.ofW (cc := cX6_readWord) (maxL := 3) (ret := (some .boolean)) (by decide) rfl ?_
  intro p e s m args below meth c s₁ B hml hv
  obtain ⟨rfl, hsz, hP, hK, hD0, hE⟩ := hv
  have hx := B.exec
  have hb := B.bytes
  have hr := B.returns
  have hts := atoms_spec (ws := wsX6_readWord) B.pre
  have hown : s.vm.findClass RX6 = some m.cls := findClass_of_methodNamed B.named
  have hlocks := B.notSynchronized
  subst hsz
  have hD := hD0.self (sz := s.heap.size)
  have hA : ∀ q : Nat, s.heap.size ≤ q → va_A (wX cB cI cJ cZ a (a 35) (a 4) ww_latestFault tp_bytes tp_size rd_fault rd_faultPlace rd_kind rd_start rd_at rd_number dr_letterMarks dr_names dr_spelled dr_rows dr_alike dr_near dr_asks dr_letters dr_words dr_askCount sh_lanes sh_sizes sh_cells la_xs la_ys la_heights la_ridgeXs la_ridgeHeights la_way la_blurs la_steps la_places la_ridges la_wayBlur la_wayLength bk_times bk_froms bk_asks bk_words bk_firsts bk_lies bk_held bk_size nu_learned nu_size to_letterMarks to_names to_spelled to_rows to_alike to_near to_asks to_letters to_words to_askCount) s.heap.size q := fun q h => Or.inr h
  generalize va_A (wX cB cI cJ cZ a (a 35) (a 4) ww_latestFault tp_bytes tp_size rd_fault rd_faultPlace rd_kind rd_start rd_at rd_number dr_letterMarks dr_names dr_spelled dr_rows dr_alike dr_near dr_asks dr_letters dr_words dr_askCount sh_lanes sh_sizes sh_cells la_xs la_ys la_heights la_ridgeXs la_ridgeHeights la_way la_blurs la_steps la_places la_ridges la_wayBlur la_wayLength bk_times bk_froms bk_asks bk_words bk_firsts bk_lies bk_held bk_size nu_learned nu_size to_letterMarks to_names to_spelled to_rows to_alike to_near to_asks to_letters to_words to_askCount) s.heap.size = A at hD hA hE ⊢
  have hS : va_S A s.heap s.heap [] := va_S.rf
  have C0 : cxt cX6_readWord (some .boolean) 3 RX6 wsX6_readWord (dC, dI) (tyz cB cI cJ cZ) (E_X adK adV) A p s m ([.ref (a 3)] : List Value).toArray meth c := ⟨hx, hb, hr, hml, hown, hts, hlocks, hK, hA, hE⟩
  have hl := lv_entry ([.ref (a 3)]) (n := 3) (Nat.le_of_ble_eq_true rfl)
  rw [lg_entry_eq]
  generalize (lg_sl ([.ref (a 3)]) ++ List.replicate (3 - (lg_sl ([.ref (a 3)])).length) Slot.unset).toArray = ls at hl ⊢
  have hl : lv_has ls 3 [(0, .ref (a 3))] := hl
  have hw0 := hts (.fieldLink RX6 18 "WhistledWords$TextReader" "draft" "LWhistledWords$Tongue;") (by decide +kernel)
  have hw1 := hts (.fieldLink RX6 106 "WhistledWords$Tongue" "words" "I") (by decide +kernel)
  have hw2 := hts (.fieldLink RX6 32 "WhistledWords$TextReader" "at" "I") (by decide +kernel)
  have hw3 := hts (.fieldLink RX6 51 "WhistledWords$TextReader" "start" "I") (by decide +kernel)
  have hnX6 : ∀ w ∈ u_ws RX6 TX6 8, w ∈ wsX6_readWord := fun _ h => List.mem_cons_of_mem _ (List.mem_append_left _ (List.mem_append_left _ (List.mem_append_right _ h)))
  have hnX7 : ∀ w ∈ u_ws RX7 TX7 10, w ∈ wsX6_readWord := fun _ h => List.mem_cons_of_mem _ (List.mem_append_left _ (List.mem_append_right _ h))
  unfold fX6_readWord at h
  refine lv_aload_n hx hb dX6_readWord_0 rfl (lv_at hl 0 rfl) ?_
  refine gX_reader_draft hx hb hts hnX6 hown hK hP hw0 dX6_readWord_1 ?_
  refine gX_draft_words hx hb hts hnX7 hown hK hP hw1 dX6_readWord_4 ?_
  refine lv_bipush (v := 16) hx hb dX6_readWord_7 (by decide) ?_
  refine lv_icmp_lt (tgt := 19) hx hb dX6_readWord_9 (by decide) (fun c1 => ?_) (fun c1 => ?_)
  · have h := it_use c1 h
    refine lv_aload_n hx hb dX6_readWord_19 rfl (lv_at hl 0 rfl) ?_
    refine lv_iconst (v := 1) hx hb dX6_readWord_20 (by decide) ?_
    obtain ⟨v2, v3, v4, v5, v6, v7, v8, hc, h⟩ := bd7_use h
    refine cv_i (As := [.int (1 : Int32)]) (rest := []) ⟨hx, hb, hml, hown, hts⟩ (kX6_expect l n dC dI cB cI cJ cZ a adK adV _ ww_latestFault tp_bytes tp_size rd_fault rd_faultPlace rd_kind rd_start rd_at rd_number dr_letterMarks dr_names dr_spelled dr_rows dr_alike dr_near dr_asks dr_letters dr_words dr_askCount sh_lanes sh_sizes sh_cells la_xs la_ys la_heights la_ridgeXs la_ridgeHeights la_way la_blurs la_steps la_places la_ridges la_wayBlur la_wayLength bk_times bk_froms bk_asks bk_words bk_firsts bk_lies bk_held bk_size nu_learned nu_size to_letterMarks to_names to_spelled to_rows to_alike to_near to_asks to_letters to_words to_askCount (1 : Int32) v2 v3 v4 v5 v6 v7 v8 hc) (cwV 1 hts gX6_readWord_X6_expect rfl rfl rfl (by decide +kernel) ⟨Nat.le_of_ble_eq_true rfl, Nat.le_of_ble_eq_true rfl⟩) EB_X hE hK hP hD hS hA 3 (ci := 5) rfl rfl rfl rfl hl.1 rfl (Nat.le_of_ble_eq_true rfl) dX6_readWord_21 ⟨Nat.zero_le _, Nat.zero_le _⟩ (fun H locs hP hD hS => ?_)
    refine lv_if_ne (tgt := 29) hx hb dX6_readWord_24 (by decide) (fun c9 => ?_) (fun c9 => ?_)
    · have h := ie_use c9 h
      refine lv_aload_n hx hb dX6_readWord_29 rfl (lv_at hl 0 rfl) ?_
      refine gX_reader_at hx hb hts hnX6 hown hK hP hw2 dX6_readWord_30 ?_
      refine lv_aload_n hx hb dX6_readWord_33 rfl (lv_at hl 0 rfl) ?_
      refine gX_reader_start hx hb hts hnX6 hown hK hP hw3 dX6_readWord_34 ?_
      refine lv_isub hx hb dX6_readWord_37 ?_
      refine lv_bipush (v := 8) hx hb dX6_readWord_38 (by decide) ?_
      refine lv_icmp_gt (tgt := 50) hx hb dX6_readWord_40 (by decide) (fun c10 => ?_) (fun c10 => ?_)
      · have h := it_use c10 h
        refine lv_aload_n hx hb dX6_readWord_50 rfl (lv_at hl 0 rfl) ?_
        refine lv_iconst (v := 5) hx hb dX6_readWord_51 (by decide) ?_
        obtain ⟨v11, v12, v13, hc, h⟩ := bd3_use h
        refine cv_i (As := [.int (5 : Int32)]) (rest := []) ⟨hx, hb, hml, hown, hts⟩ (kX6_refuse l n dC dI cB cI cJ cZ a adK adV _ ww_latestFault tp_bytes tp_size v3 v4 v5 v6 v7 v8 dr_letterMarks dr_names dr_spelled dr_rows dr_alike dr_near dr_asks dr_letters dr_words dr_askCount sh_lanes sh_sizes sh_cells la_xs la_ys la_heights la_ridgeXs la_ridgeHeights la_way la_blurs la_steps la_places la_ridges la_wayBlur la_wayLength bk_times bk_froms bk_asks bk_words bk_firsts bk_lies bk_held bk_size nu_learned nu_size to_letterMarks to_names to_spelled to_rows to_alike to_near to_asks to_letters to_words to_askCount (5 : Int32) v11 v12 v13 hc) (cwV 1 hts gX6_readWord_X6_refuse rfl rfl rfl (by decide +kernel) ⟨Nat.le_of_ble_eq_true rfl, Nat.le_of_ble_eq_true rfl⟩) EB_X hE hK hP hD hS hA 3 (ci := 5) rfl rfl rfl rfl hl.1 rfl (Nat.le_of_ble_eq_true rfl) dX6_readWord_52 ⟨Nat.zero_le _, Nat.zero_le _⟩ (fun H locs hP hD hS => ?_)
        obtain ⟨hzb, h⟩ := rb_use h
        obtain ⟨er, ez0, ez1, ez2, ez3, ez4, ez5, ez6, ez7, ez8, ez9⟩ := rt11_use h
        subst ez0
        subst ez1
        subst ez2
        subst ez3
        subst ez4
        subst ez5
        subst ez6
        subst ez7
        subst ez8
        subst ez9
        exact re_z hx hb hr hlocks hK hP hD hS hzb er dX6_readWord_55
      · have h := ie_use c10 h
        refine lv_aload_n hx hb dX6_readWord_43 rfl (lv_at hl 0 rfl) ?_
        obtain ⟨v14, hc, h⟩ := bd1_use h
        refine cv_i (As := []) (rest := []) ⟨hx, hb, hml, hown, hts⟩ (kX6_allLettersTold l n dC dI cB cI cJ cZ a adK adV _ ww_latestFault tp_bytes tp_size v3 v4 v5 v6 v7 v8 dr_letterMarks dr_names dr_spelled dr_rows dr_alike dr_near dr_asks dr_letters dr_words dr_askCount sh_lanes sh_sizes sh_cells la_xs la_ys la_heights la_ridgeXs la_ridgeHeights la_way la_blurs la_steps la_places la_ridges la_wayBlur la_wayLength bk_times bk_froms bk_asks bk_words bk_firsts bk_lies bk_held bk_size nu_learned nu_size to_letterMarks to_names to_spelled to_rows to_alike to_near to_asks to_letters to_words to_askCount  v14 hc) (cwV 0 hts gX6_readWord_X6_allLettersTold rfl rfl rfl (by decide +kernel) ⟨Nat.le_of_ble_eq_true rfl, Nat.le_of_ble_eq_true rfl⟩) EB_X hE hK hP hD hS hA 3 (ci := 5) rfl rfl rfl rfl hl.1 rfl (Nat.le_of_ble_eq_true rfl) dX6_readWord_44 ⟨Nat.zero_le _, Nat.zero_le _⟩ (fun H locs hP hD hS => ?_)
        refine lv_if_ne (tgt := 56) hx hb dX6_readWord_47 (by decide) (fun c15 => ?_) (fun c15 => ?_)
        · have h := ie_use c15 h
          refine lv_aload_n hx hb dX6_readWord_56 rfl (lv_at hl 0 rfl) ?_
          obtain ⟨v16, hc, h⟩ := bd1_use h
          refine cv_l (As := []) (rest := []) ⟨hx, hb, hml, hown, hts⟩ (kX6_nameRead l n dC dI cB cI cJ cZ a adK adV _ ww_latestFault tp_bytes tp_size v3 v4 v5 v6 v7 v8 dr_letterMarks dr_names dr_spelled dr_rows dr_alike dr_near dr_asks dr_letters dr_words dr_askCount sh_lanes sh_sizes sh_cells la_xs la_ys la_heights la_ridgeXs la_ridgeHeights la_way la_blurs la_steps la_places la_ridges la_wayBlur la_wayLength bk_times bk_froms bk_asks bk_words bk_firsts bk_lies bk_held bk_size nu_learned nu_size to_letterMarks to_names to_spelled to_rows to_alike to_near to_asks to_letters to_words to_askCount  v16 hc) (cwV 0 hts gX6_readWord_X6_nameRead rfl rfl rfl (by decide +kernel) ⟨Nat.le_of_ble_eq_true rfl, Nat.le_of_ble_eq_true rfl⟩) EB_X hE hK hP hD hS hA 3 (ci := 5) rfl rfl rfl rfl hl.1 rfl (Nat.le_of_ble_eq_true rfl) dX6_readWord_57 ⟨Nat.zero_le _, Nat.zero_le _⟩ (fun H locs hP hD hS => ?_)
          refine lv_lstore_n (lv' := [(1, .long v16), (0, .ref (a 3))]) hx hb dX6_readWord_60 rfl hl (by decide) rfl (fun ls hl => ?_)
          refine lv_aload_n hx hb dX6_readWord_61 rfl (lv_at hl 1 rfl) ?_
          refine gX_reader_draft hx hb hts hnX6 hown hK hP hw0 dX6_readWord_62 ?_
          refine lv_lload_n hx hb dX6_readWord_65 rfl (lv_at hl 0 rfl) ?_
          obtain ⟨v17, hc, h⟩ := bd1_use h
          refine cv_i (As := [.long v16]) (rest := []) ⟨hx, hb, hml, hown, hts⟩ (kX7_hasName_D l n dC dI cB cI cJ cZ a adK adV _ ww_latestFault tp_bytes tp_size v3 v4 v5 v6 v7 v8 dr_letterMarks dr_names dr_spelled dr_rows dr_alike dr_near dr_asks dr_letters dr_words dr_askCount sh_lanes sh_sizes sh_cells la_xs la_ys la_heights la_ridgeXs la_ridgeHeights la_way la_blurs la_steps la_places la_ridges la_wayBlur la_wayLength bk_times bk_froms bk_asks bk_words bk_firsts bk_lies bk_held bk_size nu_learned nu_size to_letterMarks to_names to_spelled to_rows to_alike to_near to_asks to_letters to_words to_askCount v16 v17 hc) (cwV 1 hts gX6_readWord_X7_hasName rfl rfl rfl (by decide +kernel) ⟨Nat.le_of_ble_eq_true rfl, Nat.le_of_ble_eq_true rfl⟩) EB_X hE hK hP hD hS hA 4 (ci := 6) rfl rfl rfl rfl hl.1 rfl (Nat.le_of_ble_eq_true rfl) dX6_readWord_66 ⟨Nat.zero_le _, Nat.zero_le _⟩ (fun H locs hP hD hS => ?_)
          refine lv_if_eq (tgt := 78) hx hb dX6_readWord_69 (by decide) (fun c18 => ?_) (fun c18 => ?_)
          · have h := it_use c18 h
            refine lv_aload_n hx hb dX6_readWord_78 rfl (lv_at hl 1 rfl) ?_
            refine gX_reader_draft hx hb hts hnX6 hown hK hP hw0 dX6_readWord_79 ?_
            refine lv_lload_n hx hb dX6_readWord_82 rfl (lv_at hl 0 rfl) ?_
            refine lv_aload_n hx hb dX6_readWord_83 rfl (lv_at hl 1 rfl) ?_
            refine gX_reader_at hx hb hts hnX6 hown hK hP hw2 dX6_readWord_84 ?_
            refine lv_aload_n hx hb dX6_readWord_87 rfl (lv_at hl 1 rfl) ?_
            refine gX_reader_start hx hb hts hnX6 hown hK hP hw3 dX6_readWord_88 ?_
            refine lv_isub hx hb dX6_readWord_91 ?_
            refine lv_aload_n hx hb dX6_readWord_92 rfl (lv_at hl 1 rfl) ?_
            obtain ⟨v19, hc, h⟩ := bd1_use h
            refine cv_l (As := []) (rest := [.int (v7 - v6), .long v16, .ref (a 4)]) ⟨hx, hb, hml, hown, hts⟩ (kX6_speechRead l n dC dI cB cI cJ cZ a adK adV _ ww_latestFault tp_bytes tp_size v3 v4 v5 v6 v7 v8 dr_letterMarks dr_names dr_spelled dr_rows dr_alike dr_near dr_asks dr_letters dr_words dr_askCount sh_lanes sh_sizes sh_cells la_xs la_ys la_heights la_ridgeXs la_ridgeHeights la_way la_blurs la_steps la_places la_ridges la_wayBlur la_wayLength bk_times bk_froms bk_asks bk_words bk_firsts bk_lies bk_held bk_size nu_learned nu_size to_letterMarks to_names to_spelled to_rows to_alike to_near to_asks to_letters to_words to_askCount  v19 hc) (cwV 0 hts gX6_readWord_X6_speechRead rfl rfl rfl (by decide +kernel) ⟨Nat.le_of_ble_eq_true rfl, Nat.le_of_ble_eq_true rfl⟩) EB_X hE hK hP hD hS hA 3 (ci := 5) rfl rfl rfl rfl hl.1 rfl (Nat.le_of_ble_eq_true rfl) dX6_readWord_93 ⟨Nat.zero_le _, Nat.zero_le _⟩ (fun H locs hP hD hS => ?_)
            obtain ⟨f20, f21, f22, v23, hc, h⟩ := bd4_use h
            refine cv_v (As := [.long v16, .int (v7 - v6), .long v19]) (rest := []) ⟨hx, hb, hml, hown, hts⟩ (kX7_tellWord_D l n dC dI cB cI cJ cZ a adK adV _ ww_latestFault tp_bytes tp_size v3 v4 v5 v6 v7 v8 dr_letterMarks dr_names dr_spelled dr_rows dr_alike dr_near dr_asks dr_letters dr_words dr_askCount sh_lanes sh_sizes sh_cells la_xs la_ys la_heights la_ridgeXs la_ridgeHeights la_way la_blurs la_steps la_places la_ridges la_wayBlur la_wayLength bk_times bk_froms bk_asks bk_words bk_firsts bk_lies bk_held bk_size nu_learned nu_size to_letterMarks to_names to_spelled to_rows to_alike to_near to_asks to_letters to_words to_askCount v16 (v7 - v6) v19 f20 f21 f22 v23 hc) (cwV 3 hts gX6_readWord_X7_tellWord rfl rfl rfl (by decide +kernel) ⟨Nat.le_of_ble_eq_true rfl, Nat.le_of_ble_eq_true rfl⟩) EB_X hE hK hP hD hS hA 4 (ci := 6) rfl rfl rfl rfl hl.1 rfl (Nat.le_of_ble_eq_true rfl) dX6_readWord_96 ⟨Nat.zero_le _, Nat.zero_le _⟩ (fun H locs hP hD hS => ?_)
            refine lv_aload_n hx hb dX6_readWord_99 rfl (lv_at hl 1 rfl) ?_
            refine lv_iconst (v := 3) hx hb dX6_readWord_100 (by decide) ?_
            obtain ⟨v24, v25, v26, v27, v28, v29, v30, hc, h⟩ := bd7_use h
            refine cv_i (As := [.int (3 : Int32)]) (rest := []) ⟨hx, hb, hml, hown, hts⟩ (kX6_expect l n dC dI cB cI cJ cZ a adK adV _ ww_latestFault tp_bytes tp_size v3 v4 v5 v6 v7 v8 dr_letterMarks f20 f21 f22 dr_alike dr_near dr_asks dr_letters v23 dr_askCount sh_lanes sh_sizes sh_cells la_xs la_ys la_heights la_ridgeXs la_ridgeHeights la_way la_blurs la_steps la_places la_ridges la_wayBlur la_wayLength bk_times bk_froms bk_asks bk_words bk_firsts bk_lies bk_held bk_size nu_learned nu_size to_letterMarks to_names to_spelled to_rows to_alike to_near to_asks to_letters to_words to_askCount (3 : Int32) v24 v25 v26 v27 v28 v29 v30 hc) (cwV 1 hts gX6_readWord_X6_expect rfl rfl rfl (by decide +kernel) ⟨Nat.le_of_ble_eq_true rfl, Nat.le_of_ble_eq_true rfl⟩) EB_X hE hK hP hD hS hA 3 (ci := 5) rfl rfl rfl rfl hl.1 rfl (Nat.le_of_ble_eq_true rfl) dX6_readWord_101 ⟨Nat.zero_le _, Nat.zero_le _⟩ (fun H locs hP hD hS => ?_)
            obtain ⟨hzb, h⟩ := rb_use h
            obtain ⟨er, ez0, ez1, ez2, ez3, ez4, ez5, ez6, ez7, ez8, ez9⟩ := rt11_use h
            subst ez0
            subst ez1
            subst ez2
            subst ez3
            subst ez4
            subst ez5
            subst ez6
            subst ez7
            subst ez8
            subst ez9
            exact re_z hx hb hr hlocks hK hP hD hS hzb er dX6_readWord_104
          · have h := ie_use c18 h
            refine lv_aload_n hx hb dX6_readWord_72 rfl (lv_at hl 1 rfl) ?_
            refine lv_iconst (v := 4) hx hb dX6_readWord_73 (by decide) ?_
            obtain ⟨v31, v32, v33, hc, h⟩ := bd3_use h
            refine cv_i (As := [.int (4 : Int32)]) (rest := []) ⟨hx, hb, hml, hown, hts⟩ (kX6_refuse l n dC dI cB cI cJ cZ a adK adV _ ww_latestFault tp_bytes tp_size v3 v4 v5 v6 v7 v8 dr_letterMarks dr_names dr_spelled dr_rows dr_alike dr_near dr_asks dr_letters dr_words dr_askCount sh_lanes sh_sizes sh_cells la_xs la_ys la_heights la_ridgeXs la_ridgeHeights la_way la_blurs la_steps la_places la_ridges la_wayBlur la_wayLength bk_times bk_froms bk_asks bk_words bk_firsts bk_lies bk_held bk_size nu_learned nu_size to_letterMarks to_names to_spelled to_rows to_alike to_near to_asks to_letters to_words to_askCount (4 : Int32) v31 v32 v33 hc) (cwV 1 hts gX6_readWord_X6_refuse rfl rfl rfl (by decide +kernel) ⟨Nat.le_of_ble_eq_true rfl, Nat.le_of_ble_eq_true rfl⟩) EB_X hE hK hP hD hS hA 3 (ci := 5) rfl rfl rfl rfl hl.1 rfl (Nat.le_of_ble_eq_true rfl) dX6_readWord_74 ⟨Nat.zero_le _, Nat.zero_le _⟩ (fun H locs hP hD hS => ?_)
            obtain ⟨hzb, h⟩ := rb_use h
            obtain ⟨er, ez0, ez1, ez2, ez3, ez4, ez5, ez6, ez7, ez8, ez9⟩ := rt11_use h
            subst ez0
            subst ez1
            subst ez2
            subst ez3
            subst ez4
            subst ez5
            subst ez6
            subst ez7
            subst ez8
            subst ez9
            exact re_z hx hb hr hlocks hK hP hD hS hzb er dX6_readWord_77
        · have h := it_use c15 h
          refine lv_aload_n hx hb dX6_readWord_50 rfl (lv_at hl 0 rfl) ?_
          refine lv_iconst (v := 5) hx hb dX6_readWord_51 (by decide) ?_
          obtain ⟨v34, v35, v36, hc, h⟩ := bd3_use h
          refine cv_i (As := [.int (5 : Int32)]) (rest := []) ⟨hx, hb, hml, hown, hts⟩ (kX6_refuse l n dC dI cB cI cJ cZ a adK adV _ ww_latestFault tp_bytes tp_size v3 v4 v5 v6 v7 v8 dr_letterMarks dr_names dr_spelled dr_rows dr_alike dr_near dr_asks dr_letters dr_words dr_askCount sh_lanes sh_sizes sh_cells la_xs la_ys la_heights la_ridgeXs la_ridgeHeights la_way la_blurs la_steps la_places la_ridges la_wayBlur la_wayLength bk_times bk_froms bk_asks bk_words bk_firsts bk_lies bk_held bk_size nu_learned nu_size to_letterMarks to_names to_spelled to_rows to_alike to_near to_asks to_letters to_words to_askCount (5 : Int32) v34 v35 v36 hc) (cwV 1 hts gX6_readWord_X6_refuse rfl rfl rfl (by decide +kernel) ⟨Nat.le_of_ble_eq_true rfl, Nat.le_of_ble_eq_true rfl⟩) EB_X hE hK hP hD hS hA 3 (ci := 5) rfl rfl rfl rfl hl.1 rfl (Nat.le_of_ble_eq_true rfl) dX6_readWord_52 ⟨Nat.zero_le _, Nat.zero_le _⟩ (fun H locs hP hD hS => ?_)
          obtain ⟨hzb, h⟩ := rb_use h
          obtain ⟨er, ez0, ez1, ez2, ez3, ez4, ez5, ez6, ez7, ez8, ez9⟩ := rt11_use h
          subst ez0
          subst ez1
          subst ez2
          subst ez3
          subst ez4
          subst ez5
          subst ez6
          subst ez7
          subst ez8
          subst ez9
          exact re_z hx hb hr hlocks hK hP hD hS hzb er dX6_readWord_55
    · have h := it_use c9 h
      refine lv_iconst (v := 0) hx hb dX6_readWord_27 (by decide) ?_
      obtain ⟨er, ez0, ez1, ez2, ez3, ez4, ez5, ez6, ez7, ez8, ez9⟩ := rt11_use h
      subst ez0
      subst ez1
      subst ez2
      subst ez3
      subst ez4
      subst ez5
      subst ez6
      subst ez7
      subst ez8
      subst ez9
      exact re_z hx hb hr hlocks hK hP hD hS (Or.inl rfl) er dX6_readWord_28
  · have h := ie_use c1 h
    refine lv_aload_n hx hb dX6_readWord_12 rfl (lv_at hl 0 rfl) ?_
    refine lv_bipush (v := 6) hx hb dX6_readWord_13 (by decide) ?_
    obtain ⟨v37, v38, v39, hc, h⟩ := bd3_use h
    refine cv_i (As := [.int (6 : Int32)]) (rest := []) ⟨hx, hb, hml, hown, hts⟩ (kX6_refuse l n dC dI cB cI cJ cZ a adK adV _ ww_latestFault tp_bytes tp_size rd_fault rd_faultPlace rd_kind rd_start rd_at rd_number dr_letterMarks dr_names dr_spelled dr_rows dr_alike dr_near dr_asks dr_letters dr_words dr_askCount sh_lanes sh_sizes sh_cells la_xs la_ys la_heights la_ridgeXs la_ridgeHeights la_way la_blurs la_steps la_places la_ridges la_wayBlur la_wayLength bk_times bk_froms bk_asks bk_words bk_firsts bk_lies bk_held bk_size nu_learned nu_size to_letterMarks to_names to_spelled to_rows to_alike to_near to_asks to_letters to_words to_askCount (6 : Int32) v37 v38 v39 hc) (cwV 1 hts gX6_readWord_X6_refuse rfl rfl rfl (by decide +kernel) ⟨Nat.le_of_ble_eq_true rfl, Nat.le_of_ble_eq_true rfl⟩) EB_X hE hK hP hD hS hA 3 (ci := 5) rfl rfl rfl rfl hl.1 rfl (Nat.le_of_ble_eq_true rfl) dX6_readWord_15 ⟨Nat.zero_le _, Nat.zero_le _⟩ (fun H locs hP hD hS => ?_)
    obtain ⟨hzb, h⟩ := rb_use h
    obtain ⟨er, ez0, ez1, ez2, ez3, ez4, ez5, ez6, ez7, ez8, ez9⟩ := rt11_use h
    subst ez0
    subst ez1
    subst ez2
    subst ez3
    subst ez4
    subst ez5
    subst ez6
    subst ez7
    subst ez8
    subst ez9
    exact re_z hx hb hr hlocks hK hP hD hS hzb er dX6_readWord_18
set_option maxHeartbeats 4000000 in
set_option maxRecDepth 100000 in
theorem kX6_spells_5_p20_r {p : Program} {l : Launch} {e : Env} {s : State} {m : MethodId} {args : Array Value} {below : List Frame} {meth : Method} {c : Code} {A : Nat → Prop} (dC : Nat → ClassId) (dI : Nat → Nat → Nat) (cB cI cJ cZ : ClassId) (a : Nat → Nat) (adK adV : Nat → Nat) (C0 : cxt cX6_spells (some .boolean) 3 RX6 wsX6_spells (dC, dI) (tyz cB cI cJ cZ) (E_X adK adV) A p s m args meth c) (n : Nat) (ww_latestFault : Int32) (tp_bytes : Nat → Int32) (tp_size : Int32) (rd_fault : Int32) (rd_faultPlace : Int32) (rd_kind : Int32) (rd_start : Int32) (rd_at : Int32) (rd_number : Int32) (dr_letterMarks : Nat → Int32) (dr_names : Nat → Int64) (dr_spelled : Nat → Int32) (dr_rows : Nat → Int64) (dr_alike : Nat → Int32) (dr_near : Nat → Int32) (dr_asks : Nat → Int32) (dr_letters : Int32) (dr_words : Int32) (dr_askCount : Int32) (sh_lanes : Nat → Int32) (sh_sizes : Nat → Int32) (sh_cells : Nat → Int32) (la_xs : Nat → Int32) (la_ys : Nat → Int32) (la_heights : Nat → Int32) (la_ridgeXs : Nat → Int32) (la_ridgeHeights : Nat → Int32) (la_way : Nat → Int32) (la_blurs : Nat → Int32) (la_steps : Nat → Int32) (la_places : Int32) (la_ridges : Int32) (la_wayBlur : Int32) (la_wayLength : Int32) (bk_times : Nat → Int32) (bk_froms : Nat → Int32) (bk_asks : Nat → Int32) (bk_words : Nat → Int32) (bk_firsts : Nat → Int32) (bk_lies : Nat → Int32) (bk_held : Nat → Int32) (bk_size : Int32) (nu_learned : Nat → Int32) (nu_size : Int32) (to_letterMarks : Nat → Int32) (to_names : Nat → Int64) (to_spelled : Nat → Int32) (to_rows : Nat → Int64) (to_alike : Nat → Int32) (to_near : Nat → Int32) (to_asks : Nat → Int32) (to_letters : Int32) (to_words : Int32) (to_askCount : Int32)  (r0 : Int32)  : ∀ (k : Nat) (x2 : Int32) (H : Heap) (locs : List Loc) (ls : Array Slot), fX6_spells_p20 n tp_bytes rd_start (lenS 5) (chS 5) k x2 = some r0 → va_P (dC, dI) vwCl (wX cB cI cJ cZ a (a 35) (a 4) ww_latestFault tp_bytes tp_size rd_fault rd_faultPlace rd_kind rd_start rd_at rd_number dr_letterMarks dr_names dr_spelled dr_rows dr_alike dr_near dr_asks dr_letters dr_words dr_askCount sh_lanes sh_sizes sh_cells la_xs la_ys la_heights la_ridgeXs la_ridgeHeights la_way la_blurs la_steps la_places la_ridges la_wayBlur la_wayLength bk_times bk_froms bk_asks bk_words bk_firsts bk_lies bk_held bk_size nu_learned nu_size to_letterMarks to_names to_spelled to_rows to_alike to_near to_asks to_letters to_words to_askCount) H → va_D A (wX cB cI cJ cZ a (a 35) (a 4) ww_latestFault tp_bytes tp_size rd_fault rd_faultPlace rd_kind rd_start rd_at rd_number dr_letterMarks dr_names dr_spelled dr_rows dr_alike dr_near dr_asks dr_letters dr_words dr_askCount sh_lanes sh_sizes sh_cells la_xs la_ys la_heights la_ridgeXs la_ridgeHeights la_way la_blurs la_steps la_places la_ridges la_wayBlur la_wayLength bk_times bk_froms bk_asks bk_words bk_firsts bk_lies bk_held bk_size nu_learned nu_size to_letterMarks to_names to_spelled to_rows to_alike to_near to_asks to_letters to_words to_askCount) → va_S A s.heap H locs → lv_has ls 3 [(0, .ref (a 3)), (1, .ref (adK 5)), (2, .int x2)] → W p l e { frames := 4, cells := 0, slots := 0, locals := 85 } s m args below meth c H locs 0 0 (MQ below (gI (dC, dI) (tyz cB cI cJ cZ) (wX cB cI cJ cZ a (a 35) (a 4) ww_latestFault tp_bytes tp_size rd_fault rd_faultPlace rd_kind rd_start rd_at rd_number dr_letterMarks dr_names dr_spelled dr_rows dr_alike dr_near dr_asks dr_letters dr_words dr_askCount sh_lanes sh_sizes sh_cells la_xs la_ys la_heights la_ridgeXs la_ridgeHeights la_way la_blurs la_steps la_places la_ridges la_wayBlur la_wayLength bk_times bk_froms bk_asks bk_words bk_firsts bk_lies bk_held bk_size nu_learned nu_size to_letterMarks to_names to_spelled to_rows to_alike to_near to_asks to_letters to_words to_askCount) A r0) args s 0 0 A) (F0 m 20 ls []) := by
  obtain ⟨hx, hb, hr, hml, hown, hts, hlocks, hK, hA, hE⟩ := id C0
  have hw0 := hts (.fieldLink RX6 9 "WhistledWords$TextReader" "tape" "LWhistledWords$Tape;") (by decide +kernel)
  have hw1 := hts (.fieldLink RX6 146 "WhistledWords$Tape" "bytes" "[B") (by decide +kernel)
  have hw2 := hts (.fieldLink RX6 51 "WhistledWords$TextReader" "start" "I") (by decide +kernel)
  have hnX6 : ∀ w ∈ u_ws RX6 TX6 8, w ∈ wsX6_spells := fun _ h => List.mem_cons_of_mem _ (List.mem_append_left _ (List.mem_append_right _ h))
  have hnX5 : ∀ w ∈ u_ws RX5 TX5 2, w ∈ wsX6_spells := fun _ h => List.mem_cons_of_mem _ (List.mem_append_right _ h)
  intro k
  induction k with
  | zero =>
    intro x2 H locs ls h
    cases h
  | succ k ih =>
    intro x2 H locs ls h hP hD hS hl
    rw [fX6_spells_p20] at h
    refine lv_iload_n hx hb dX6_spells_20 rfl (lv_at hl 2 rfl) ?_
    refine lv_aload_n hx hb dX6_spells_21 rfl (lv_at hl 1 rfl) ?_
    refine cS_len (k := 5) (rest := [.int x2]) (by decide) ⟨hx, hb, hml, hown, hts⟩ (cwV 0 hts gX6_spells_J0_length_8abf5 rfl rfl rfl (by decide +kernel) ⟨Nat.le_of_ble_eq_true rfl, Nat.le_of_ble_eq_true rfl⟩) hE.2.1 hP hS hl.1 rfl (Nat.le_of_ble_eq_true rfl) dX6_spells_22 ⟨Nat.zero_le _, Nat.zero_le _⟩ (fun H locs hP hS => ?_)
    refine lv_icmp_ge (tgt := 58) hx hb dX6_spells_25 (by decide) (fun c1 => ?_) (fun c1 => ?_)
    · have h := it_use c1 h
      refine lv_iconst (v := 1) hx hb dX6_spells_58 (by decide) ?_
      obtain er := rt1_use h
      exact re_z hx hb hr hlocks hK hP hD hS (Or.inr rfl) er dX6_spells_59
    · have h := ie_use c1 h
      refine lv_aload_n hx hb dX6_spells_28 rfl (lv_at hl 0 rfl) ?_
      refine gX_reader_tape hx hb hts hnX6 hown hK hP hw0 dX6_spells_29 ?_
      refine gX_tape_bytes hx hb hts hnX5 hown hK hP hw1 dX6_spells_32 ?_
      refine lv_aload_n hx hb dX6_spells_35 rfl (lv_at hl 0 rfl) ?_
      refine gX_reader_start hx hb hts hnX6 hown hK hP hw2 dX6_spells_36 ?_
      refine lv_iload_n hx hb dX6_spells_39 rfl (lv_at hl 2 rfl) ?_
      refine lv_iadd hx hb dX6_spells_40 ?_
      obtain ⟨hiv2, h⟩ := ar_use h
      refine lX_tape_bytes hx hb hK hP hiv2 dX6_spells_41 ?_
      refine lv_topi (fun v2 ev2 => ?_)
      have h := h v2 ev2
      refine lv_aload_n hx hb dX6_spells_42 rfl (lv_at hl 1 rfl) ?_
      refine lv_iload_n hx hb dX6_spells_43 rfl (lv_at hl 2 rfl) ?_
      obtain ⟨hiv3, h⟩ := ar_use h
      refine cS_chr (k := 5) (rest := [.int v2]) (by decide) ⟨hx, hb, hml, hown, hts⟩ hiv3 (cwV 1 hts gX6_spells_J0_charAt_5068e rfl rfl rfl (by decide +kernel) ⟨Nat.le_of_ble_eq_true rfl, Nat.le_of_ble_eq_true rfl⟩) hE.2.1 hP hS hl.1 rfl (Nat.le_of_ble_eq_true rfl) dX6_spells_44 ⟨Nat.zero_le _, Nat.zero_le _⟩ (fun H locs hP hS => ?_)
      refine lv_topi (fun v3 ev3 => ?_)
      have h := h v3 ev3
      refine lv_icmp_eq (tgt := 52) hx hb dX6_spells_47 (by decide) (fun c4 => ?_) (fun c4 => ?_)
      · have h := it_use c4 h
        refine lv_iinc (v := x2 + 1) (lv' := [(2, .int (x2 + 1)), (0, .ref (a 3)), (1, .ref (adK 5))]) hx hb dX6_spells_52 hl (k := 2) rfl rfl (by decide) rfl (fun ls hl => ?_)
        refine lv_goto (tgt := 20) hx hb dX6_spells_55 (by decide) ?_
        exact ih (x2 + 1) _ _ ls h hP hD hS (lv_sub hl [1, 2, 0] rfl)
      · have h := ie_use c4 h
        refine lv_iconst (v := 0) hx hb dX6_spells_50 (by decide) ?_
        obtain er := rt1_use h
        exact re_z hx hb hr hlocks hK hP hD hS (Or.inl rfl) er dX6_spells_51
theorem kX6_spells_5_p20 {p : Program} {l : Launch} {e : Env} {s : State} {m : MethodId} {args : Array Value} {below : List Frame} {meth : Method} {c : Code} {A : Nat → Prop} (dC : Nat → ClassId) (dI : Nat → Nat → Nat) (cB cI cJ cZ : ClassId) (a : Nat → Nat) (adK adV : Nat → Nat) (C0 : cxt cX6_spells (some .boolean) 3 RX6 wsX6_spells (dC, dI) (tyz cB cI cJ cZ) (E_X adK adV) A p s m args meth c) (n : Nat) (ww_latestFault : Int32) (tp_bytes : Nat → Int32) (tp_size : Int32) (rd_fault : Int32) (rd_faultPlace : Int32) (rd_kind : Int32) (rd_start : Int32) (rd_at : Int32) (rd_number : Int32) (dr_letterMarks : Nat → Int32) (dr_names : Nat → Int64) (dr_spelled : Nat → Int32) (dr_rows : Nat → Int64) (dr_alike : Nat → Int32) (dr_near : Nat → Int32) (dr_asks : Nat → Int32) (dr_letters : Int32) (dr_words : Int32) (dr_askCount : Int32) (sh_lanes : Nat → Int32) (sh_sizes : Nat → Int32) (sh_cells : Nat → Int32) (la_xs : Nat → Int32) (la_ys : Nat → Int32) (la_heights : Nat → Int32) (la_ridgeXs : Nat → Int32) (la_ridgeHeights : Nat → Int32) (la_way : Nat → Int32) (la_blurs : Nat → Int32) (la_steps : Nat → Int32) (la_places : Int32) (la_ridges : Int32) (la_wayBlur : Int32) (la_wayLength : Int32) (bk_times : Nat → Int32) (bk_froms : Nat → Int32) (bk_asks : Nat → Int32) (bk_words : Nat → Int32) (bk_firsts : Nat → Int32) (bk_lies : Nat → Int32) (bk_held : Nat → Int32) (bk_size : Int32) (nu_learned : Nat → Int32) (nu_size : Int32) (to_letterMarks : Nat → Int32) (to_names : Nat → Int64) (to_spelled : Nat → Int32) (to_rows : Nat → Int64) (to_alike : Nat → Int32) (to_near : Nat → Int32) (to_asks : Nat → Int32) (to_letters : Int32) (to_words : Int32) (to_askCount : Int32)  (x2 : Int32) (r0 : Int32)  (k : Nat) (H : Heap) (locs : List Loc) (ls : Array Slot) : fX6_spells_p20 n tp_bytes rd_start (lenS 5) (chS 5) k x2 = some r0 → va_P (dC, dI) vwCl (wX cB cI cJ cZ a (a 35) (a 4) ww_latestFault tp_bytes tp_size rd_fault rd_faultPlace rd_kind rd_start rd_at rd_number dr_letterMarks dr_names dr_spelled dr_rows dr_alike dr_near dr_asks dr_letters dr_words dr_askCount sh_lanes sh_sizes sh_cells la_xs la_ys la_heights la_ridgeXs la_ridgeHeights la_way la_blurs la_steps la_places la_ridges la_wayBlur la_wayLength bk_times bk_froms bk_asks bk_words bk_firsts bk_lies bk_held bk_size nu_learned nu_size to_letterMarks to_names to_spelled to_rows to_alike to_near to_asks to_letters to_words to_askCount) H → va_D A (wX cB cI cJ cZ a (a 35) (a 4) ww_latestFault tp_bytes tp_size rd_fault rd_faultPlace rd_kind rd_start rd_at rd_number dr_letterMarks dr_names dr_spelled dr_rows dr_alike dr_near dr_asks dr_letters dr_words dr_askCount sh_lanes sh_sizes sh_cells la_xs la_ys la_heights la_ridgeXs la_ridgeHeights la_way la_blurs la_steps la_places la_ridges la_wayBlur la_wayLength bk_times bk_froms bk_asks bk_words bk_firsts bk_lies bk_held bk_size nu_learned nu_size to_letterMarks to_names to_spelled to_rows to_alike to_near to_asks to_letters to_words to_askCount) → va_S A s.heap H locs → lv_has ls 3 [(0, .ref (a 3)), (1, .ref (adK 5)), (2, .int x2)] → W p l e { frames := 4, cells := 0, slots := 0, locals := 85 } s m args below meth c H locs 0 0 (MQ below (gI (dC, dI) (tyz cB cI cJ cZ) (wX cB cI cJ cZ a (a 35) (a 4) ww_latestFault tp_bytes tp_size rd_fault rd_faultPlace rd_kind rd_start rd_at rd_number dr_letterMarks dr_names dr_spelled dr_rows dr_alike dr_near dr_asks dr_letters dr_words dr_askCount sh_lanes sh_sizes sh_cells la_xs la_ys la_heights la_ridgeXs la_ridgeHeights la_way la_blurs la_steps la_places la_ridges la_wayBlur la_wayLength bk_times bk_froms bk_asks bk_words bk_firsts bk_lies bk_held bk_size nu_learned nu_size to_letterMarks to_names to_spelled to_rows to_alike to_near to_asks to_letters to_words to_askCount) A r0) args s 0 0 A) (F0 m 20 ls []) :=
  kX6_spells_5_p20_r dC dI cB cI cJ cZ a adK adV C0 n ww_latestFault tp_bytes tp_size rd_fault rd_faultPlace rd_kind rd_start rd_at rd_number dr_letterMarks dr_names dr_spelled dr_rows dr_alike dr_near dr_asks dr_letters dr_words dr_askCount sh_lanes sh_sizes sh_cells la_xs la_ys la_heights la_ridgeXs la_ridgeHeights la_way la_blurs la_steps la_places la_ridges la_wayBlur la_wayLength bk_times bk_froms bk_asks bk_words bk_firsts bk_lies bk_held bk_size nu_learned nu_size to_letterMarks to_names to_spelled to_rows to_alike to_near to_asks to_letters to_words to_askCount  r0  k x2 H locs ls
set_option maxHeartbeats 4000000 in
set_option maxRecDepth 100000 in
theorem kX6_spells_5 (l : Launch) (n : Nat) (dC : Nat → ClassId) (dI : Nat → Nat → Nat) (cB cI cJ cZ : ClassId) (a : Nat → Nat) (adK adV : Nat → Nat) (sz : Nat) (ww_latestFault : Int32) (tp_bytes : Nat → Int32) (tp_size : Int32) (rd_fault : Int32) (rd_faultPlace : Int32) (rd_kind : Int32) (rd_start : Int32) (rd_at : Int32) (rd_number : Int32) (dr_letterMarks : Nat → Int32) (dr_names : Nat → Int64) (dr_spelled : Nat → Int32) (dr_rows : Nat → Int64) (dr_alike : Nat → Int32) (dr_near : Nat → Int32) (dr_asks : Nat → Int32) (dr_letters : Int32) (dr_words : Int32) (dr_askCount : Int32) (sh_lanes : Nat → Int32) (sh_sizes : Nat → Int32) (sh_cells : Nat → Int32) (la_xs : Nat → Int32) (la_ys : Nat → Int32) (la_heights : Nat → Int32) (la_ridgeXs : Nat → Int32) (la_ridgeHeights : Nat → Int32) (la_way : Nat → Int32) (la_blurs : Nat → Int32) (la_steps : Nat → Int32) (la_places : Int32) (la_ridges : Int32) (la_wayBlur : Int32) (la_wayLength : Int32) (bk_times : Nat → Int32) (bk_froms : Nat → Int32) (bk_asks : Nat → Int32) (bk_words : Nat → Int32) (bk_firsts : Nat → Int32) (bk_lies : Nat → Int32) (bk_held : Nat → Int32) (bk_size : Int32) (nu_learned : Nat → Int32) (nu_size : Int32) (to_letterMarks : Nat → Int32) (to_names : Nat → Int64) (to_spelled : Nat → Int32) (to_rows : Nat → Int64) (to_alike : Nat → Int32) (to_near : Nat → Int32) (to_asks : Nat → Int32) (to_letters : Int32) (to_words : Int32) (to_askCount : Int32)  (r0 : Int32) (h : fX6_spells n tp_bytes rd_start rd_at  (lenS 5) (chS 5) = some r0) : Met l yX6_spells wsX6_spells ({ frames := 4, cells := 0, slots := 0, locals := 85 }) (gP (dC, dI) (tyz cB cI cJ cZ) (E_X adK adV) (wX cB cI cJ cZ a (a 35) (a 4) ww_latestFault tp_bytes tp_size rd_fault rd_faultPlace rd_kind rd_start rd_at rd_number dr_letterMarks dr_names dr_spelled dr_rows dr_alike dr_near dr_asks dr_letters dr_words dr_askCount sh_lanes sh_sizes sh_cells la_xs la_ys la_heights la_ridgeXs la_ridgeHeights la_way la_blurs la_steps la_places la_ridges la_wayBlur la_wayLength bk_times bk_froms bk_asks bk_words bk_firsts bk_lies bk_held bk_size nu_learned nu_size to_letterMarks to_names to_spelled to_rows to_alike to_near to_asks to_letters to_words to_askCount) sz [.ref (a 3), .ref (adK 5)]) (gI (dC, dI) (tyz cB cI cJ cZ) (wX cB cI cJ cZ a (a 35) (a 4) ww_latestFault tp_bytes tp_size rd_fault rd_faultPlace rd_kind rd_start rd_at rd_number dr_letterMarks dr_names dr_spelled dr_rows dr_alike dr_near dr_asks dr_letters dr_words dr_askCount sh_lanes sh_sizes sh_cells la_xs la_ys la_heights la_ridgeXs la_ridgeHeights la_way la_blurs la_steps la_places la_ridges la_wayBlur la_wayLength bk_times bk_froms bk_asks bk_words bk_firsts bk_lies bk_held bk_size nu_learned nu_size to_letterMarks to_names to_spelled to_rows to_alike to_near to_asks to_letters to_words to_askCount) (va_A (wX cB cI cJ cZ a (a 35) (a 4) ww_latestFault tp_bytes tp_size rd_fault rd_faultPlace rd_kind rd_start rd_at rd_number dr_letterMarks dr_names dr_spelled dr_rows dr_alike dr_near dr_asks dr_letters dr_words dr_askCount sh_lanes sh_sizes sh_cells la_xs la_ys la_heights la_ridgeXs la_ridgeHeights la_way la_blurs la_steps la_places la_ridges la_wayBlur la_wayLength bk_times bk_froms bk_asks bk_words bk_firsts bk_lies bk_held bk_size nu_learned nu_size to_letterMarks to_names to_spelled to_rows to_alike to_near to_asks to_letters to_words to_askCount) sz) r0) 0 0 (va_A (wX cB cI cJ cZ a (a 35) (a 4) ww_latestFault tp_bytes tp_size rd_fault rd_faultPlace rd_kind rd_start rd_at rd_number dr_letterMarks dr_names dr_spelled dr_rows dr_alike dr_near dr_asks dr_letters dr_words dr_askCount sh_lanes sh_sizes sh_cells la_xs la_ys la_heights la_ridgeXs la_ridgeHeights la_way la_blurs la_steps la_places la_ridges la_wayBlur la_wayLength bk_times bk_froms bk_asks bk_words bk_firsts bk_lies bk_held bk_size nu_learned nu_size to_letterMarks to_names to_spelled to_rows to_alike to_near to_asks to_letters to_words to_askCount) sz) := by
  refine Met.ofW (cc := cX6_spells) (maxL := 3) (ret := (some .boolean)) (by decide) rfl ?_
  intro p e s m args below meth c s₁ B hml hv
  obtain ⟨rfl, hsz, hP, hK, hD0, hE⟩ := hv
  have hx := B.exec
  have hb := B.bytes
  have hr := B.returns
  have hts := atoms_spec (ws := wsX6_spells) B.pre
  have hown : s.vm.findClass RX6 = some m.cls := findClass_of_methodNamed B.named
  have hlocks := B.notSynchronized
  subst hsz
  have hD := hD0.self (sz := s.heap.size)
  have hA : ∀ q : Nat, s.heap.size ≤ q → va_A (wX cB cI cJ cZ a (a 35) (a 4) ww_latestFault tp_bytes tp_size rd_fault rd_faultPlace rd_kind rd_start rd_at rd_number dr_letterMarks dr_names dr_spelled dr_rows dr_alike dr_near dr_asks dr_letters dr_words dr_askCount sh_lanes sh_sizes sh_cells la_xs la_ys la_heights la_ridgeXs la_ridgeHeights la_way la_blurs la_steps la_places la_ridges la_wayBlur la_wayLength bk_times bk_froms bk_asks bk_words bk_firsts bk_lies bk_held bk_size nu_learned nu_size to_letterMarks to_names to_spelled to_rows to_alike to_near to_asks to_letters to_words to_askCount) s.heap.size q := fun q h => Or.inr h
  generalize va_A (wX cB cI cJ cZ a (a 35) (a 4) ww_latestFault tp_bytes tp_size rd_fault rd_faultPlace rd_kind rd_start rd_at rd_number dr_letterMarks dr_names dr_spelled dr_rows dr_alike dr_near dr_asks dr_letters dr_words dr_askCount sh_lanes sh_sizes sh_cells la_xs la_ys la_heights la_ridgeXs la_ridgeHeights la_way la_blurs la_steps la_places la_ridges la_wayBlur la_wayLength bk_times bk_froms bk_asks bk_words bk_firsts bk_lies bk_held bk_size nu_learned nu_size to_letterMarks to_names to_spelled to_rows to_alike to_near to_asks to_letters to_words to_askCount) s.heap.size = A at hD hA hE ⊢
  have hS : va_S A s.heap s.heap [] := va_S.rf
  have C0 : cxt cX6_spells (some .boolean) 3 RX6 wsX6_spells (dC, dI) (tyz cB cI cJ cZ) (E_X adK adV) A p s m ([.ref (a 3), .ref (adK 5)] : List Value).toArray meth c := ⟨hx, hb, hr, hml, hown, hts, hlocks, hK, hA, hE⟩
  have hl := lv_entry ([.ref (a 3), .ref (adK 5)]) (n := 3) (Nat.le_of_ble_eq_true rfl)
  rw [lg_entry_eq]
  generalize (lg_sl ([.ref (a 3), .ref (adK 5)]) ++ List.replicate (3 - (lg_sl ([.ref (a 3), .ref (adK 5)])).length) Slot.unset).toArray = ls at hl ⊢
  have hl : lv_has ls 3 [(0, .ref (a 3)), (1, .ref (adK 5))] := hl
  have hw0 := hts (.fieldLink RX6 32 "WhistledWords$TextReader" "at" "I") (by decide +kernel)
  have hw1 := hts (.fieldLink RX6 51 "WhistledWords$TextReader" "start" "I") (by decide +kernel)
  have hnX6 : ∀ w ∈ u_ws RX6 TX6 8, w ∈ wsX6_spells := fun _ h => List.mem_cons_of_mem _ (List.mem_append_left _ (List.mem_append_right _ h))
  unfold fX6_spells at h
  refine lv_aload_n hx hb dX6_spells_0 rfl (lv_at hl 0 rfl) ?_
  refine gX_reader_at hx hb hts hnX6 hown hK hP hw0 dX6_spells_1 ?_
  refine lv_aload_n hx hb dX6_spells_4 rfl (lv_at hl 0 rfl) ?_
  refine gX_reader_start hx hb hts hnX6 hown hK hP hw1 dX6_spells_5 ?_
  refine lv_isub hx hb dX6_spells_8 ?_
  refine lv_aload_n hx hb dX6_spells_9 rfl (lv_at hl 1 rfl) ?_
  refine cS_len (k := 5) (rest := [.int (rd_at - rd_start)]) (by decide) ⟨hx, hb, hml, hown, hts⟩ (cwV 0 hts gX6_spells_J0_length_8abf5 rfl rfl rfl (by decide +kernel) ⟨Nat.le_of_ble_eq_true rfl, Nat.le_of_ble_eq_true rfl⟩) hE.2.1 hP hS hl.1 rfl (Nat.le_of_ble_eq_true rfl) dX6_spells_10 ⟨Nat.zero_le _, Nat.zero_le _⟩ (fun H locs hP hS => ?_)
  refine lv_icmp_eq (tgt := 18) hx hb dX6_spells_13 (by decide) (fun c1 => ?_) (fun c1 => ?_)
  · have h := it_use c1 h
    refine lv_iconst (v := 0) hx hb dX6_spells_18 (by decide) ?_
    refine lv_istore_n (lv' := [(2, .int (0 : Int32)), (0, .ref (a 3)), (1, .ref (adK 5))]) hx hb dX6_spells_19 rfl hl (by decide) rfl (fun ls hl => ?_)
    exact kX6_spells_5_p20 dC dI cB cI cJ cZ a adK adV C0 n ww_latestFault tp_bytes tp_size rd_fault rd_faultPlace rd_kind rd_start rd_at rd_number dr_letterMarks dr_names dr_spelled dr_rows dr_alike dr_near dr_asks dr_letters dr_words dr_askCount sh_lanes sh_sizes sh_cells la_xs la_ys la_heights la_ridgeXs la_ridgeHeights la_way la_blurs la_steps la_places la_ridges la_wayBlur la_wayLength bk_times bk_froms bk_asks bk_words bk_firsts bk_lies bk_held bk_size nu_learned nu_size to_letterMarks to_names to_spelled to_rows to_alike to_near to_asks to_letters to_words to_askCount (0 : Int32) r0  n _ _ ls h hP hD hS (lv_sub hl [1, 2, 0] rfl)
  · have h := ie_use c1 h
    refine lv_iconst (v := 0) hx hb dX6_spells_16 (by decide) ?_
    obtain er := rt1_use h
    exact re_z hx hb hr hlocks hK hP hD hS (Or.inl rfl) er dX6_spells_17
set_option maxHeartbeats 4000000 in
set_option maxRecDepth 100000 in
theorem kX7_isWord_D (l : Launch) (n : Nat) (dC : Nat → ClassId) (dI : Nat → Nat → Nat) (cB cI cJ cZ : ClassId) (a : Nat → Nat) (adK adV : Nat → Nat) (sz : Nat) (ww_latestFault : Int32) (tp_bytes : Nat → Int32) (tp_size : Int32) (rd_fault : Int32) (rd_faultPlace : Int32) (rd_kind : Int32) (rd_start : Int32) (rd_at : Int32) (rd_number : Int32) (dr_letterMarks : Nat → Int32) (dr_names : Nat → Int64) (dr_spelled : Nat → Int32) (dr_rows : Nat → Int64) (dr_alike : Nat → Int32) (dr_near : Nat → Int32) (dr_asks : Nat → Int32) (dr_letters : Int32) (dr_words : Int32) (dr_askCount : Int32) (sh_lanes : Nat → Int32) (sh_sizes : Nat → Int32) (sh_cells : Nat → Int32) (la_xs : Nat → Int32) (la_ys : Nat → Int32) (la_heights : Nat → Int32) (la_ridgeXs : Nat → Int32) (la_ridgeHeights : Nat → Int32) (la_way : Nat → Int32) (la_blurs : Nat → Int32) (la_steps : Nat → Int32) (la_places : Int32) (la_ridges : Int32) (la_wayBlur : Int32) (la_wayLength : Int32) (bk_times : Nat → Int32) (bk_froms : Nat → Int32) (bk_asks : Nat → Int32) (bk_words : Nat → Int32) (bk_firsts : Nat → Int32) (bk_lies : Nat → Int32) (bk_held : Nat → Int32) (bk_size : Int32) (nu_learned : Nat → Int32) (nu_size : Int32) (to_letterMarks : Nat → Int32) (to_names : Nat → Int64) (to_spelled : Nat → Int32) (to_rows : Nat → Int64) (to_alike : Nat → Int32) (to_near : Nat → Int32) (to_asks : Nat → Int32) (to_letters : Int32) (to_words : Int32) (to_askCount : Int32) (x1 : Int32) (r0 : Int32) (h : fX7_isWord n dr_words x1 = some r0) : Met l yX7_isWord wsX7_isWord ({ frames := 0, cells := 0, slots := 0, locals := 0 }) (gP (dC, dI) (tyz cB cI cJ cZ) (E_X adK adV) (wX cB cI cJ cZ a (a 35) (a 4) ww_latestFault tp_bytes tp_size rd_fault rd_faultPlace rd_kind rd_start rd_at rd_number dr_letterMarks dr_names dr_spelled dr_rows dr_alike dr_near dr_asks dr_letters dr_words dr_askCount sh_lanes sh_sizes sh_cells la_xs la_ys la_heights la_ridgeXs la_ridgeHeights la_way la_blurs la_steps la_places la_ridges la_wayBlur la_wayLength bk_times bk_froms bk_asks bk_words bk_firsts bk_lies bk_held bk_size nu_learned nu_size to_letterMarks to_names to_spelled to_rows to_alike to_near to_asks to_letters to_words to_askCount) sz [.ref (a 4), .int x1]) (gI (dC, dI) (tyz cB cI cJ cZ) (wX cB cI cJ cZ a (a 35) (a 4) ww_latestFault tp_bytes tp_size rd_fault rd_faultPlace rd_kind rd_start rd_at rd_number dr_letterMarks dr_names dr_spelled dr_rows dr_alike dr_near dr_asks dr_letters dr_words dr_askCount sh_lanes sh_sizes sh_cells la_xs la_ys la_heights la_ridgeXs la_ridgeHeights la_way la_blurs la_steps la_places la_ridges la_wayBlur la_wayLength bk_times bk_froms bk_asks bk_words bk_firsts bk_lies bk_held bk_size nu_learned nu_size to_letterMarks to_names to_spelled to_rows to_alike to_near to_asks to_letters to_words to_askCount) (va_A (wX cB cI cJ cZ a (a 35) (a 4) ww_latestFault tp_bytes tp_size rd_fault rd_faultPlace rd_kind rd_start rd_at rd_number dr_letterMarks dr_names dr_spelled dr_rows dr_alike dr_near dr_asks dr_letters dr_words dr_askCount sh_lanes sh_sizes sh_cells la_xs la_ys la_heights la_ridgeXs la_ridgeHeights la_way la_blurs la_steps la_places la_ridges la_wayBlur la_wayLength bk_times bk_froms bk_asks bk_words bk_firsts bk_lies bk_held bk_size nu_learned nu_size to_letterMarks to_names to_spelled to_rows to_alike to_near to_asks to_letters to_words to_askCount) sz) r0) 0 0 (va_A (wX cB cI cJ cZ a (a 35) (a 4) ww_latestFault tp_bytes tp_size rd_fault rd_faultPlace rd_kind rd_start rd_at rd_number dr_letterMarks dr_names dr_spelled dr_rows dr_alike dr_near dr_asks dr_letters dr_words dr_askCount sh_lanes sh_sizes sh_cells la_xs la_ys la_heights la_ridgeXs la_ridgeHeights la_way la_blurs la_steps la_places la_ridges la_wayBlur la_wayLength bk_times bk_froms bk_asks bk_words bk_firsts bk_lies bk_held bk_size nu_learned nu_size to_letterMarks to_names to_spelled to_rows to_alike to_near to_asks to_letters to_words to_askCount) sz) := by
  refine Met.ofW (cc := cX7_isWord) (maxL := 2) (ret := (some .boolean)) (by decide) rfl ?_
  intro p e s m args below meth c s₁ B hml hv
  obtain ⟨rfl, hsz, hP, hK, hD0, hE⟩ := hv
  have hx := B.exec
  have hb := B.bytes
  have hr := B.returns
  have hts := atoms_spec (ws := wsX7_isWord) B.pre
  have hown : s.vm.findClass RX7 = some m.cls := findClass_of_methodNamed B.named
  have hlocks := B.notSynchronized
  subst hsz
  have hD := hD0.self (sz := s.heap.size)
  have hA : ∀ q : Nat, s.heap.size ≤ q → va_A (wX cB cI cJ cZ a (a 35) (a 4) ww_latestFault tp_bytes tp_size rd_fault rd_faultPlace rd_kind rd_start rd_at rd_number dr_letterMarks dr_names dr_spelled dr_rows dr_alike dr_near dr_asks dr_letters dr_words dr_askCount sh_lanes sh_sizes sh_cells la_xs la_ys la_heights la_ridgeXs la_ridgeHeights la_way la_blurs la_steps la_places la_ridges la_wayBlur la_wayLength bk_times bk_froms bk_asks bk_words bk_firsts bk_lies bk_held bk_size nu_learned nu_size to_letterMarks to_names to_spelled to_rows to_alike to_near to_asks to_letters to_words to_askCount) s.heap.size q := fun q h => Or.inr h
  generalize va_A (wX cB cI cJ cZ a (a 35) (a 4) ww_latestFault tp_bytes tp_size rd_fault rd_faultPlace rd_kind rd_start rd_at rd_number dr_letterMarks dr_names dr_spelled dr_rows dr_alike dr_near dr_asks dr_letters dr_words dr_askCount sh_lanes sh_sizes sh_cells la_xs la_ys la_heights la_ridgeXs la_ridgeHeights la_way la_blurs la_steps la_places la_ridges la_wayBlur la_wayLength bk_times bk_froms bk_asks bk_words bk_firsts bk_lies bk_held bk_size nu_learned nu_size to_letterMarks to_names to_spelled to_rows to_alike to_near to_asks to_letters to_words to_askCount) s.heap.size = A at hD hA hE ⊢
  have hS : va_S A s.heap s.heap [] := va_S.rf
  have C0 : cxt cX7_isWord (some .boolean) 2 RX7 wsX7_isWord (dC, dI) (tyz cB cI cJ cZ) (E_X adK adV) A p s m ([.ref (a 4), .int x1] : List Value).toArray meth c := ⟨hx, hb, hr, hml, hown, hts, hlocks, hK, hA, hE⟩
  have hl := lv_entry ([.ref (a 4), .int x1]) (n := 2) (Nat.le_of_ble_eq_true rfl)
  rw [lg_entry_eq]
  generalize (lg_sl ([.ref (a 4), .int x1]) ++ List.replicate (2 - (lg_sl ([.ref (a 4), .int x1])).length) Slot.unset).toArray = ls at hl ⊢
  have hl : lv_has ls 2 [(0, .ref (a 4)), (1, .int x1)] := hl
  have hw0 := hts (.fieldLink RX7 44 "WhistledWords$Tongue" "words" "I") (by decide +kernel)
  have hnX7 : ∀ w ∈ u_ws RX7 TX7 10, w ∈ wsX7_isWord := fun _ h => List.mem_cons_of_mem _ (List.mem_append_right _ h)
  unfold fX7_isWord at h
  refine lv_iload_n hx hb dX7_isWord_0 rfl (lv_at hl 1 rfl) ?_
  refine lv_if_lt (tgt := 16) hx hb dX7_isWord_1 (by decide) (fun c1 => ?_) (fun c1 => ?_)
  · have h := it_use c1 h
    refine lv_iconst (v := 0) hx hb dX7_isWord_16 (by decide) ?_
    obtain er := rt1_use h
    exact re_z hx hb hr hlocks hK hP hD hS (Or.inl rfl) er dX7_isWord_17
  · have h := ie_use c1 h
    refine lv_iload_n hx hb dX7_isWord_4 rfl (lv_at hl 1 rfl) ?_
    refine lv_aload_n hx hb dX7_isWord_5 rfl (lv_at hl 0 rfl) ?_
    refine gX_draft_words hx hb hts hnX7 hown hK hP hw0 dX7_isWord_6 ?_
    refine lv_icmp_ge (tgt := 16) hx hb dX7_isWord_9 (by decide) (fun c2 => ?_) (fun c2 => ?_)
    · have h := it_use c2 h
      refine lv_iconst (v := 0) hx hb dX7_isWord_16 (by decide) ?_
      obtain er := rt1_use h
      exact re_z hx hb hr hlocks hK hP hD hS (Or.inl rfl) er dX7_isWord_17
    · have h := ie_use c2 h
      refine lv_iconst (v := 1) hx hb dX7_isWord_12 (by decide) ?_
      refine lv_goto (tgt := 17) hx hb dX7_isWord_13 (by decide) ?_
      obtain er := rt1_use h
      exact re_z hx hb hr hlocks hK hP hD hS (Or.inr rfl) er dX7_isWord_17

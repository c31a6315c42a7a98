set_option maxHeartbeats 4000000 in
set_option maxRecDepth 100000 in
theorem kX5_addEight_p14_r {p : Program} {l : Launch} {e : Env} {s : State} {m : MethodId} {args : Array Value} {below : List Frame} {meth : Method} {c : Code} {A : Nat → Prop} (dC : Nat → ClassId) (dI : Nat → Nat → Nat) (cB cI cJ cZ : ClassId) (a : Nat → Nat) (adK adV : Nat → Nat) (C0 : cxt cX5_addEight (some .boolean) 4 RX5 wsX5_addEight (dC, dI) (tyz cB cI cJ cZ) (E_X adK adV) A p s m args meth c) (n : Nat) (ww_latestFault : Int32) (tp_size : Int32) (rd_fault : Int32) (rd_faultPlace : Int32) (rd_kind : Int32) (rd_start : Int32) (rd_at : Int32) (rd_number : Int32) (dr_letterMarks : Nat → Int32) (dr_names : Nat → Int64) (dr_spelled : Nat → Int32) (dr_rows : Nat → Int64) (dr_alike : Nat → Int32) (dr_near : Nat → Int32) (dr_asks : Nat → Int32) (dr_letters : Int32) (dr_words : Int32) (dr_askCount : Int32) (sh_lanes : Nat → Int32) (sh_sizes : Nat → Int32) (sh_cells : Nat → Int32) (la_xs : Nat → Int32) (la_ys : Nat → Int32) (la_heights : Nat → Int32) (la_ridgeXs : Nat → Int32) (la_ridgeHeights : Nat → Int32) (la_way : Nat → Int32) (la_blurs : Nat → Int32) (la_steps : Nat → Int32) (la_places : Int32) (la_ridges : Int32) (la_wayBlur : Int32) (la_wayLength : Int32) (bk_times : Nat → Int32) (bk_froms : Nat → Int32) (bk_asks : Nat → Int32) (bk_words : Nat → Int32) (bk_firsts : Nat → Int32) (bk_lies : Nat → Int32) (bk_held : Nat → Int32) (bk_size : Int32) (nu_learned : Nat → Int32) (nu_size : Int32) (to_letterMarks : Nat → Int32) (to_names : Nat → Int64) (to_spelled : Nat → Int32) (to_rows : Nat → Int64) (to_alike : Nat → Int32) (to_near : Nat → Int32) (to_asks : Nat → Int32) (to_letters : Int32) (to_words : Int32) (to_askCount : Int32) (x1 : Int64) (r0 : Int32) (z_tp_bytes : Nat → Int32) (z_tp_size : Int32)  : ∀ (k : Nat) (tp_bytes : Nat → Int32) (x3 : Int32) (H : Heap) (locs : List Loc) (ls : Array Slot), fX5_addEight_p14 n tp_size x1 k tp_bytes x3 = some (r0, z_tp_bytes, z_tp_size) → va_P (dC, dI) vwCl (wX cB cI cJ cZ a (a 35) (a 4) ww_latestFault tp_bytes tp_size rd_fault rd_faultPlace rd_kind rd_start rd_at rd_number dr_letterMarks dr_names dr_spelled dr_rows dr_alike dr_near dr_asks dr_letters dr_words dr_askCount sh_lanes sh_sizes sh_cells la_xs la_ys la_heights la_ridgeXs la_ridgeHeights la_way la_blurs la_steps la_places la_ridges la_wayBlur la_wayLength bk_times bk_froms bk_asks bk_words bk_firsts bk_lies bk_held bk_size nu_learned nu_size to_letterMarks to_names to_spelled to_rows to_alike to_near to_asks to_letters to_words to_askCount) H → va_D A (wX cB cI cJ cZ a (a 35) (a 4) ww_latestFault tp_bytes tp_size rd_fault rd_faultPlace rd_kind rd_start rd_at rd_number dr_letterMarks dr_names dr_spelled dr_rows dr_alike dr_near dr_asks dr_letters dr_words dr_askCount sh_lanes sh_sizes sh_cells la_xs la_ys la_heights la_ridgeXs la_ridgeHeights la_way la_blurs la_steps la_places la_ridges la_wayBlur la_wayLength bk_times bk_froms bk_asks bk_words bk_firsts bk_lies bk_held bk_size nu_learned nu_size to_letterMarks to_names to_spelled to_rows to_alike to_near to_asks to_letters to_words to_askCount) → va_S A s.heap H locs → lv_has ls 4 [(0, .ref (a 1)), (1, .long x1), (3, .int x3)] → W p l e { frames := 0, cells := 0, slots := 0, locals := 0 } s m args below meth c H locs 0 0 (MQ below (gI (dC, dI) (tyz cB cI cJ cZ) (wX cB cI cJ cZ a (a 35) (a 4) ww_latestFault z_tp_bytes z_tp_size rd_fault rd_faultPlace rd_kind rd_start rd_at rd_number dr_letterMarks dr_names dr_spelled dr_rows dr_alike dr_near dr_asks dr_letters dr_words dr_askCount sh_lanes sh_sizes sh_cells la_xs la_ys la_heights la_ridgeXs la_ridgeHeights la_way la_blurs la_steps la_places la_ridges la_wayBlur la_wayLength bk_times bk_froms bk_asks bk_words bk_firsts bk_lies bk_held bk_size nu_learned nu_size to_letterMarks to_names to_spelled to_rows to_alike to_near to_asks to_letters to_words to_askCount) A r0) args s 0 0 A) (F0 m 14 ls []) := by
  obtain ⟨hx, hb, hr, hml, hown, hts, hlocks, hK, hA, hE⟩ := id C0
  have hw0 := hts (.fieldLink RX5 13 "WhistledWords$Tape" "size" "I") (by decide +kernel)
  have hw1 := hts (.fieldLink RX5 9 "WhistledWords$Tape" "bytes" "[B") (by decide +kernel)
  have hnX5 : ∀ w ∈ u_ws RX5 TX5 2, w ∈ wsX5_addEight := fun _ h => List.mem_cons_of_mem _ (List.mem_append_right _ h)
  intro k
  induction k with
  | zero =>
    intro tp_bytes x3 H locs ls h
    cases h
  | succ k ih =>
    intro tp_bytes x3 H locs ls h hP hD hS hl
    rw [fX5_addEight_p14] at h
    refine lv_iload_n hx hb dX5_addEight_14 rfl (lv_at hl 2 rfl) ?_
    refine lv_bipush (v := 8) hx hb dX5_addEight_15 (by decide) ?_
    refine lv_icmp_ge (tgt := 48) hx hb dX5_addEight_17 (by decide) (fun c1 => ?_) (fun c1 => ?_)
    · have h := it_use c1 h
      refine lv_aload_n hx hb dX5_addEight_48 rfl (lv_at hl 0 rfl) ?_
      refine lv_dup hx hb dX5_addEight_49 rfl ?_
      refine gX_tape_size hx hb hts hnX5 hown hK hP hw0 dX5_addEight_50 ?_
      refine lv_bipush (v := 8) hx hb dX5_addEight_53 (by decide) ?_
      refine lv_iadd hx hb dX5_addEight_55 ?_
      refine lv_topi (fun v2 ev2 => ?_)
      have h := nm_use ev2 h
      refine pX_tape_size hx hb hts hnX5 hown hK hP hD hS hw0 dX5_addEight_56 (fun H locs hP hD hS => ?_)
      refine lv_iconst (v := 1) hx hb dX5_addEight_59 (by decide) ?_
      obtain ⟨er, ez0, ez1⟩ := rt3_use h
      subst ez0
      subst ez1
      exact re_z hx hb hr hlocks hK hP hD hS (Or.inr rfl) er dX5_addEight_60
    · have h := ie_use c1 h
      refine lv_aload_n hx hb dX5_addEight_20 rfl (lv_at hl 0 rfl) ?_
      refine gX_tape_bytes hx hb hts hnX5 hown hK hP hw1 dX5_addEight_21 ?_
      refine lv_aload_n hx hb dX5_addEight_24 rfl (lv_at hl 0 rfl) ?_
      refine gX_tape_size hx hb hts hnX5 hown hK hP hw0 dX5_addEight_25 ?_
      refine lv_iload_n hx hb dX5_addEight_28 rfl (lv_at hl 2 rfl) ?_
      refine lv_iadd hx hb dX5_addEight_29 ?_
      refine lv_lload_n hx hb dX5_addEight_30 rfl (lv_at hl 1 rfl) ?_
      refine lv_bipush (v := 56) hx hb dX5_addEight_31 (by decide) ?_
      refine lv_bipush (v := 8) hx hb dX5_addEight_33 (by decide) ?_
      refine lv_iload_n hx hb dX5_addEight_35 rfl (lv_at hl 2 rfl) ?_
      refine lv_imul hx hb dX5_addEight_36 ?_
      refine lv_isub hx hb dX5_addEight_37 ?_
      refine lv_lshr hx hb dX5_addEight_38 rfl ?_
      refine lv_l2i hx hb dX5_addEight_39 rfl ?_
      refine lv_i2b hx hb dX5_addEight_40 rfl ?_
      obtain ⟨hif3, f3, ef3, h⟩ := aw_use h
      refine sX_tape_bytes hx hb hK hP hD hS hif3 ef3 dX5_addEight_41 (fun H locs hP hD hS => ?_)
      refine lv_iinc (v := x3 + 1) (lv' := [(3, .int (x3 + 1)), (0, .ref (a 1)), (1, .long x1)]) hx hb dX5_addEight_42 hl (k := 2) rfl rfl (by decide) rfl (fun ls hl => ?_)
      refine lv_goto (tgt := 14) hx hb dX5_addEight_45 (by decide) ?_
      exact ih f3 (x3 + 1) _ _ ls h hP hD hS (lv_sub hl [1, 2, 0] rfl)
theorem kX5_addEight_p14 {p : Program} {l : Launch} {e : Env} {s : State} {m : MethodId} {args : Array Value} {below : List Frame} {meth : Method} {c : Code} {A : Nat → Prop} (dC : Nat → ClassId) (dI : Nat → Nat → Nat) (cB cI cJ cZ : ClassId) (a : Nat → Nat) (adK adV : Nat → Nat) (C0 : cxt cX5_addEight (some .boolean) 4 RX5 wsX5_addEight (dC, dI) (tyz cB cI cJ cZ) (E_X adK adV) A p s m args meth c) (n : Nat) (ww_latestFault : Int32) (tp_bytes : Nat → Int32) (tp_size : Int32) (rd_fault : Int32) (rd_faultPlace : Int32) (rd_kind : Int32) (rd_start : Int32) (rd_at : Int32) (rd_number : Int32) (dr_letterMarks : Nat → Int32) (dr_names : Nat → Int64) (dr_spelled : Nat → Int32) (dr_rows : Nat → Int64) (dr_alike : Nat → Int32) (dr_near : Nat → Int32) (dr_asks : Nat → Int32) (dr_letters : Int32) (dr_words : Int32) (dr_askCount : Int32) (sh_lanes : Nat → Int32) (sh_sizes : Nat → Int32) (sh_cells : Nat → Int32) (la_xs : Nat → Int32) (la_ys : Nat → Int32) (la_heights : Nat → Int32) (la_ridgeXs : Nat → Int32) (la_ridgeHeights : Nat → Int32) (la_way : Nat → Int32) (la_blurs : Nat → Int32) (la_steps : Nat → Int32) (la_places : Int32) (la_ridges : Int32) (la_wayBlur : Int32) (la_wayLength : Int32) (bk_times : Nat → Int32) (bk_froms : Nat → Int32) (bk_asks : Nat → Int32) (bk_words : Nat → Int32) (bk_firsts : Nat → Int32) (bk_lies : Nat → Int32) (bk_held : Nat → Int32) (bk_size : Int32) (nu_learned : Nat → Int32) (nu_size : Int32) (to_letterMarks : Nat → Int32) (to_names : Nat → Int64) (to_spelled : Nat → Int32) (to_rows : Nat → Int64) (to_alike : Nat → Int32) (to_near : Nat → Int32) (to_asks : Nat → Int32) (to_letters : Int32) (to_words : Int32) (to_askCount : Int32)  (x1 : Int64) (x3 : Int32) (r0 : Int32) (z_tp_bytes : Nat → Int32) (z_tp_size : Int32)  (k : Nat) (H : Heap) (locs : List Loc) (ls : Array Slot) : fX5_addEight_p14 n tp_size x1 k tp_bytes x3 = some (r0, z_tp_bytes, z_tp_size) → va_P (dC, dI) vwCl (wX cB cI cJ cZ a (a 35) (a 4) ww_latestFault tp_bytes tp_size rd_fault rd_faultPlace rd_kind rd_start rd_at rd_number dr_letterMarks dr_names dr_spelled dr_rows dr_alike dr_near dr_asks dr_letters dr_words dr_askCount sh_lanes sh_sizes sh_cells la_xs la_ys la_heights la_ridgeXs la_ridgeHeights la_way la_blurs la_steps la_places la_ridges la_wayBlur la_wayLength bk_times bk_froms bk_asks bk_words bk_firsts bk_lies bk_held bk_size nu_learned nu_size to_letterMarks to_names to_spelled to_rows to_alike to_near to_asks to_letters to_words to_askCount) H → va_D A (wX cB cI cJ cZ a (a 35) (a 4) ww_latestFault tp_bytes tp_size rd_fault rd_faultPlace rd_kind rd_start rd_at rd_number dr_letterMarks dr_names dr_spelled dr_rows dr_alike dr_near dr_asks dr_letters dr_words dr_askCount sh_lanes sh_sizes sh_cells la_xs la_ys la_heights la_ridgeXs la_ridgeHeights la_way la_blurs la_steps la_places la_ridges la_wayBlur la_wayLength bk_times bk_froms bk_asks bk_words bk_firsts bk_lies bk_held bk_size nu_learned nu_size to_letterMarks to_names to_spelled to_rows to_alike to_near to_asks to_letters to_words to_askCount) → va_S A s.heap H locs → lv_has ls 4 [(0, .ref (a 1)), (1, .long x1), (3, .int x3)] → W p l e { frames := 0, cells := 0, slots := 0, locals := 0 } s m args below meth c H locs 0 0 (MQ below (gI (dC, dI) (tyz cB cI cJ cZ) (wX cB cI cJ cZ a (a 35) (a 4) ww_latestFault z_tp_bytes z_tp_size rd_fault rd_faultPlace rd_kind rd_start rd_at rd_number dr_letterMarks dr_names dr_spelled dr_rows dr_alike dr_near dr_asks dr_letters dr_words dr_askCount sh_lanes sh_sizes sh_cells la_xs la_ys la_heights la_ridgeXs la_ridgeHeights la_way la_blurs la_steps la_places la_ridges la_wayBlur la_wayLength bk_times bk_froms bk_asks bk_words bk_firsts bk_lies bk_held bk_size nu_learned nu_size to_letterMarks to_names to_spelled to_rows to_alike to_near to_asks to_letters to_words to_askCount) A r0) args s 0 0 A) (F0 m 14 ls []) :=
  kX5_addEight_p14_r dC dI cB cI cJ cZ a adK adV C0 n ww_latestFault tp_size rd_fault rd_faultPlace rd_kind rd_start rd_at rd_number dr_letterMarks dr_names dr_spelled dr_rows dr_alike dr_near dr_asks dr_letters dr_words dr_askCount sh_lanes sh_sizes sh_cells la_xs la_ys la_heights la_ridgeXs la_ridgeHeights la_way la_blurs la_steps la_places la_ridges la_wayBlur la_wayLength bk_times bk_froms bk_asks bk_words bk_firsts bk_lies bk_held bk_size nu_learned nu_size to_letterMarks to_names to_spelled to_rows to_alike to_near to_asks to_letters to_words to_askCount x1 r0 z_tp_bytes z_tp_size  k tp_bytes x3 H locs ls
set_option maxHeartbeats 4000000 in
set_option maxRecDepth 100000 in
theorem kX5_addEight (l : Launch) (n : Nat) (dC : Nat → ClassId) (dI : Nat → Nat → Nat) (cB cI cJ cZ : ClassId) (a : Nat → Nat) (adK adV : Nat → Nat) (sz : Nat) (ww_latestFault : Int32) (tp_bytes : Nat → Int32) (tp_size : Int32) (rd_fault : Int32) (rd_faultPlace : Int32) (rd_kind : Int32) (rd_start : Int32) (rd_at : Int32) (rd_number : Int32) (dr_letterMarks : Nat → Int32) (dr_names : Nat → Int64) (dr_spelled : Nat → Int32) (dr_rows : Nat → Int64) (dr_alike : Nat → Int32) (dr_near : Nat → Int32) (dr_asks : Nat → Int32) (dr_letters : Int32) (dr_words : Int32) (dr_askCount : Int32) (sh_lanes : Nat → Int32) (sh_sizes : Nat → Int32) (sh_cells : Nat → Int32) (la_xs : Nat → Int32) (la_ys : Nat → Int32) (la_heights : Nat → Int32) (la_ridgeXs : Nat → Int32) (la_ridgeHeights : Nat → Int32) (la_way : Nat → Int32) (la_blurs : Nat → Int32) (la_steps : Nat → Int32) (la_places : Int32) (la_ridges : Int32) (la_wayBlur : Int32) (la_wayLength : Int32) (bk_times : Nat → Int32) (bk_froms : Nat → Int32) (bk_asks : Nat → Int32) (bk_words : Nat → Int32) (bk_firsts : Nat → Int32) (bk_lies : Nat → Int32) (bk_held : Nat → Int32) (bk_size : Int32) (nu_learned : Nat → Int32) (nu_size : Int32) (to_letterMarks : Nat → Int32) (to_names : Nat → Int64) (to_spelled : Nat → Int32) (to_rows : Nat → Int64) (to_alike : Nat → Int32) (to_near : Nat → Int32) (to_asks : Nat → Int32) (to_letters : Int32) (to_words : Int32) (to_askCount : Int32) (x1 : Int64) (r0 : Int32) (z_tp_bytes : Nat → Int32) (z_tp_size : Int32) (h : fX5_addEight n tp_bytes tp_size x1 = some (r0, z_tp_bytes, z_tp_size)) : Met l yX5_addEight wsX5_addEight ({ frames := 0, cells := 0, slots := 0, locals := 0 }) (gP (dC, dI) (tyz cB cI cJ cZ) (E_X adK adV) (wX cB cI cJ cZ a (a 35) (a 4) ww_latestFault tp_bytes tp_size rd_fault rd_faultPlace rd_kind rd_start rd_at rd_number dr_letterMarks dr_names dr_spelled dr_rows dr_alike dr_near dr_asks dr_letters dr_words dr_askCount sh_lanes sh_sizes sh_cells la_xs la_ys la_heights la_ridgeXs la_ridgeHeights la_way la_blurs la_steps la_places la_ridges la_wayBlur la_wayLength bk_times bk_froms bk_asks bk_words bk_firsts bk_lies bk_held bk_size nu_learned nu_size to_letterMarks to_names to_spelled to_rows to_alike to_near to_asks to_letters to_words to_askCount) sz [.ref (a 1), .long x1]) (gI (dC, dI) (tyz cB cI cJ cZ) (wX cB cI cJ cZ a (a 35) (a 4) ww_latestFault z_tp_bytes z_tp_size rd_fault rd_faultPlace rd_kind rd_start rd_at rd_number dr_letterMarks dr_names dr_spelled dr_rows dr_alike dr_near dr_asks dr_letters dr_words dr_askCount sh_lanes sh_sizes sh_cells la_xs la_ys la_heights la_ridgeXs la_ridgeHeights la_way la_blurs la_steps la_places la_ridges la_wayBlur la_wayLength bk_times bk_froms bk_asks bk_words bk_firsts bk_lies bk_held bk_size nu_learned nu_size to_letterMarks to_names to_spelled to_rows to_alike to_near to_asks to_letters to_words to_askCount) (va_A (wX cB cI cJ cZ a (a 35) (a 4) ww_latestFault tp_bytes tp_size rd_fault rd_faultPlace rd_kind rd_start rd_at rd_number dr_letterMarks dr_names dr_spelled dr_rows dr_alike dr_near dr_asks dr_letters dr_words dr_askCount sh_lanes sh_sizes sh_cells la_xs la_ys la_heights la_ridgeXs la_ridgeHeights la_way la_blurs la_steps la_places la_ridges la_wayBlur la_wayLength bk_times bk_froms bk_asks bk_words bk_firsts bk_lies bk_held bk_size nu_learned nu_size to_letterMarks to_names to_spelled to_rows to_alike to_near to_asks to_letters to_words to_askCount) sz) r0) 0 0 (va_A (wX cB cI cJ cZ a (a 35) (a 4) ww_latestFault tp_bytes tp_size rd_fault rd_faultPlace rd_kind rd_start rd_at rd_number dr_letterMarks dr_names dr_spelled dr_rows dr_alike dr_near dr_asks dr_letters dr_words dr_askCount sh_lanes sh_sizes sh_cells la_xs la_ys la_heights la_ridgeXs la_ridgeHeights la_way la_blurs la_steps la_places la_ridges la_wayBlur la_wayLength bk_times bk_froms bk_asks bk_words bk_firsts bk_lies bk_held bk_size nu_learned nu_size to_letterMarks to_names to_spelled to_rows to_alike to_near to_asks to_letters to_words to_askCount) sz) := by
  refine Met.ofW (cc := cX5_addEight) (maxL := 4) (ret := (some .boolean)) (by decide) rfl ?_
  intro p e s m args below meth c s₁ B hml hv
  obtain ⟨rfl, hsz, hP, hK, hD0, hE⟩ := hv
  have hx := B.exec
  have hb := B.bytes
  have hr := B.returns
  have hts := atoms_spec (ws := wsX5_addEight) B.pre
  have hown : s.vm.findClass RX5 = some m.cls := findClass_of_methodNamed B.named
  have hlocks := B.notSynchronized
  subst hsz
  have hD := hD0.self (sz := s.heap.size)
  have hA : ∀ q : Nat, s.heap.size ≤ q → va_A (wX cB cI cJ cZ a (a 35) (a 4) ww_latestFault tp_bytes tp_size rd_fault rd_faultPlace rd_kind rd_start rd_at rd_number dr_letterMarks dr_names dr_spelled dr_rows dr_alike dr_near dr_asks dr_letters dr_words dr_askCount sh_lanes sh_sizes sh_cells la_xs la_ys la_heights la_ridgeXs la_ridgeHeights la_way la_blurs la_steps la_places la_ridges la_wayBlur la_wayLength bk_times bk_froms bk_asks bk_words bk_firsts bk_lies bk_held bk_size nu_learned nu_size to_letterMarks to_names to_spelled to_rows to_alike to_near to_asks to_letters to_words to_askCount) s.heap.size q := fun q h => Or.inr h
  generalize va_A (wX cB cI cJ cZ a (a 35) (a 4) ww_latestFault tp_bytes tp_size rd_fault rd_faultPlace rd_kind rd_start rd_at rd_number dr_letterMarks dr_names dr_spelled dr_rows dr_alike dr_near dr_asks dr_letters dr_words dr_askCount sh_lanes sh_sizes sh_cells la_xs la_ys la_heights la_ridgeXs la_ridgeHeights la_way la_blurs la_steps la_places la_ridges la_wayBlur la_wayLength bk_times bk_froms bk_asks bk_words bk_firsts bk_lies bk_held bk_size nu_learned nu_size to_letterMarks to_names to_spelled to_rows to_alike to_near to_asks to_letters to_words to_askCount) s.heap.size = A at hD hA hE ⊢
  have hS : va_S A s.heap s.heap [] := va_S.rf
  have C0 : cxt cX5_addEight (some .boolean) 4 RX5 wsX5_addEight (dC, dI) (tyz cB cI cJ cZ) (E_X adK adV) A p s m ([.ref (a 1), .long x1] : List Value).toArray meth c := ⟨hx, hb, hr, hml, hown, hts, hlocks, hK, hA, hE⟩
  have hl := lv_entry ([.ref (a 1), .long x1]) (n := 4) (Nat.le_of_ble_eq_true rfl)
  rw [lg_entry_eq]
  generalize (lg_sl ([.ref (a 1), .long x1]) ++ List.replicate (4 - (lg_sl ([.ref (a 1), .long x1])).length) Slot.unset).toArray = ls at hl ⊢
  have hl : lv_has ls 4 [(0, .ref (a 1)), (1, .long x1)] := hl
  have hw0 := hts (.fieldLink RX5 13 "WhistledWords$Tape" "size" "I") (by decide +kernel)
  have hnX5 : ∀ w ∈ u_ws RX5 TX5 2, w ∈ wsX5_addEight := fun _ h => List.mem_cons_of_mem _ (List.mem_append_right _ h)
  unfold fX5_addEight at h
  refine lv_aload_n hx hb dX5_addEight_0 rfl (lv_at hl 0 rfl) ?_
  refine gX_tape_size hx hb hts hnX5 hown hK hP hw0 dX5_addEight_1 ?_
  refine lv_sipush (v := 392) hx hb dX5_addEight_4 (by decide) ?_
  refine lv_icmp_le (tgt := 12) hx hb dX5_addEight_7 (by decide) (fun c1 => ?_) (fun c1 => ?_)
  · have h := it_use c1 h
    refine lv_iconst (v := 0) hx hb dX5_addEight_12 (by decide) ?_
    refine lv_istore_n (lv' := [(3, .int (0 : Int32)), (0, .ref (a 1)), (1, .long x1)]) hx hb dX5_addEight_13 rfl hl (by decide) rfl (fun ls hl => ?_)
    exact kX5_addEight_p14 dC dI cB cI cJ cZ a adK adV C0 n ww_latestFault tp_bytes tp_size rd_fault rd_faultPlace rd_kind rd_start rd_at rd_number dr_letterMarks dr_names dr_spelled dr_rows dr_alike dr_near dr_asks dr_letters dr_words dr_askCount sh_lanes sh_sizes sh_cells la_xs la_ys la_heights la_ridgeXs la_ridgeHeights la_way la_blurs la_steps la_places la_ridges la_wayBlur la_wayLength bk_times bk_froms bk_asks bk_words bk_firsts bk_lies bk_held bk_size nu_learned nu_size to_letterMarks to_names to_spelled to_rows to_alike to_near to_asks to_letters to_words to_askCount x1 (0 : Int32) r0 z_tp_bytes z_tp_size  n _ _ ls h hP hD hS (lv_sub hl [1, 2, 0] rfl)
  · have h := ie_use c1 h
    refine lv_iconst (v := 0) hx hb dX5_addEight_10 (by decide) ?_
    obtain ⟨er, ez0, ez1⟩ := rt3_use h
    subst ez0
    subst ez1
    exact re_z hx hb hr hlocks hK hP hD hS (Or.inl rfl) er dX5_addEight_11
set_option maxHeartbeats 4000000 in
set_option maxRecDepth 100000 in
theorem kX8_feed (l : Launch) (n : Nat) (dC : Nat → ClassId) (dI : Nat → Nat → Nat) (cB cI cJ cZ : ClassId) (a : Nat → Nat) (adK adV : Nat → Nat) (sz : Nat) (ww_latestFault : Int32) (tp_bytes : Nat → Int32) (tp_size : Int32) (rd_fault : Int32) (rd_faultPlace : Int32) (rd_kind : Int32) (rd_start : Int32) (rd_at : Int32) (rd_number : Int32) (dr_letterMarks : Nat → Int32) (dr_names : Nat → Int64) (dr_spelled : Nat → Int32) (dr_rows : Nat → Int64) (dr_alike : Nat → Int32) (dr_near : Nat → Int32) (dr_asks : Nat → Int32) (dr_letters : Int32) (dr_words : Int32) (dr_askCount : Int32) (sh_lanes : Nat → Int32) (sh_sizes : Nat → Int32) (sh_cells : Nat → Int32) (la_xs : Nat → Int32) (la_ys : Nat → Int32) (la_heights : Nat → Int32) (la_ridgeXs : Nat → Int32) (la_ridgeHeights : Nat → Int32) (la_way : Nat → Int32) (la_blurs : Nat → Int32) (la_steps : Nat → Int32) (la_places : Int32) (la_ridges : Int32) (la_wayBlur : Int32) (la_wayLength : Int32) (bk_times : Nat → Int32) (bk_froms : Nat → Int32) (bk_asks : Nat → Int32) (bk_words : Nat → Int32) (bk_firsts : Nat → Int32) (bk_lies : Nat → Int32) (bk_held : Nat → Int32) (bk_size : Int32) (nu_learned : Nat → Int32) (nu_size : Int32) (to_letterMarks : Nat → Int32) (to_names : Nat → Int64) (to_spelled : Nat → Int32) (to_rows : Nat → Int64) (to_alike : Nat → Int32) (to_near : Nat → Int32) (to_asks : Nat → Int32) (to_letters : Int32) (to_words : Int32) (to_askCount : Int32) (x1 : Int64) (r0 : Int32) (z_tp_bytes : Nat → Int32) (z_tp_size : Int32) (h : fX8_feed n tp_bytes tp_size x1 = some (r0, z_tp_bytes, z_tp_size)) : Met l yX8_feed wsX8_feed ({ frames := 1, cells := 0, slots := 0, locals := 23 }) (gP (dC, dI) (tyz cB cI cJ cZ) (E_X adK adV) (wX cB cI cJ cZ a (a 35) (a 4) ww_latestFault tp_bytes tp_size rd_fault rd_faultPlace rd_kind rd_start rd_at rd_number dr_letterMarks dr_names dr_spelled dr_rows dr_alike dr_near dr_asks dr_letters dr_words dr_askCount sh_lanes sh_sizes sh_cells la_xs la_ys la_heights la_ridgeXs la_ridgeHeights la_way la_blurs la_steps la_places la_ridges la_wayBlur la_wayLength bk_times bk_froms bk_asks bk_words bk_firsts bk_lies bk_held bk_size nu_learned nu_size to_letterMarks to_names to_spelled to_rows to_alike to_near to_asks to_letters to_words to_askCount) sz [.ref (a 0), .long x1]) (gI (dC, dI) (tyz cB cI cJ cZ) (wX cB cI cJ cZ a (a 35) (a 4) ww_latestFault z_tp_bytes z_tp_size rd_fault rd_faultPlace rd_kind rd_start rd_at rd_number dr_letterMarks dr_names dr_spelled dr_rows dr_alike dr_near dr_asks dr_letters dr_words dr_askCount sh_lanes sh_sizes sh_cells la_xs la_ys la_heights la_ridgeXs la_ridgeHeights la_way la_blurs la_steps la_places la_ridges la_wayBlur la_wayLength bk_times bk_froms bk_asks bk_words bk_firsts bk_lies bk_held bk_size nu_learned nu_size to_letterMarks to_names to_spelled to_rows to_alike to_near to_asks to_letters to_words to_askCount) (va_A (wX cB cI cJ cZ a (a 35) (a 4) ww_latestFault tp_bytes tp_size rd_fault rd_faultPlace rd_kind rd_start rd_at rd_number dr_letterMarks dr_names dr_spelled dr_rows dr_alike dr_near dr_asks dr_letters dr_words dr_askCount sh_lanes sh_sizes sh_cells la_xs la_ys la_heights la_ridgeXs la_ridgeHeights la_way la_blurs la_steps la_places la_ridges la_wayBlur la_wayLength bk_times bk_froms bk_asks bk_words bk_firsts bk_lies bk_held bk_size nu_learned nu_size to_letterMarks to_names to_spelled to_rows to_alike to_near to_asks to_letters to_words to_askCount) sz) r0) 0 0 (va_A (wX cB cI cJ cZ a (a 35) (a 4) ww_latestFault tp_bytes tp_size rd_fault rd_faultPlace rd_kind rd_start rd_at rd_number dr_letterMarks dr_names dr_spelled dr_rows dr_alike dr_near dr_asks dr_letters dr_words dr_askCount sh_lanes sh_sizes sh_cells la_xs la_ys la_heights la_ridgeXs la_ridgeHeights la_way la_blurs la_steps la_places la_ridges la_wayBlur la_wayLength bk_times bk_froms bk_asks bk_words bk_firsts bk_lies bk_held bk_size nu_learned nu_size to_letterMarks to_names to_spelled to_rows to_alike to_near to_asks to_letters to_words to_askCount) sz) := by
  refine Met.ofW (cc := cX8_feed) (maxL := 3) (ret := (some .int)) (by decide) rfl ?_
  intro p e s m args below meth c s₁ B hml hv
  obtain ⟨rfl, hsz, hP, hK, hD0, hE⟩ := hv
  have hx := B.exec
  have hb := B.bytes
  have hr := B.returns
  have hts := atoms_spec (ws := wsX8_feed) B.pre
  have hown : s.vm.findClass RX8 = some m.cls := findClass_of_methodNamed B.named
  have hlocks := B.notSynchronized
  subst hsz
  have hD := hD0.self (sz := s.heap.size)
  have hA : ∀ q : Nat, s.heap.size ≤ q → va_A (wX cB cI cJ cZ a (a 35) (a 4) ww_latestFault tp_bytes tp_size rd_fault rd_faultPlace rd_kind rd_start rd_at rd_number dr_letterMarks dr_names dr_spelled dr_rows dr_alike dr_near dr_asks dr_letters dr_words dr_askCount sh_lanes sh_sizes sh_cells la_xs la_ys la_heights la_ridgeXs la_ridgeHeights la_way la_blurs la_steps la_places la_ridges la_wayBlur la_wayLength bk_times bk_froms bk_asks bk_words bk_firsts bk_lies bk_held bk_size nu_learned nu_size to_letterMarks to_names to_spelled to_rows to_alike to_near to_asks to_letters to_words to_askCount) s.heap.size q := fun q h => Or.inr h
  generalize va_A (wX cB cI cJ cZ a (a 35) (a 4) ww_latestFault tp_bytes tp_size rd_fault rd_faultPlace rd_kind rd_start rd_at rd_number dr_letterMarks dr_names dr_spelled dr_rows dr_alike dr_near dr_asks dr_letters dr_words dr_askCount sh_lanes sh_sizes sh_cells la_xs la_ys la_heights la_ridgeXs la_ridgeHeights la_way la_blurs la_steps la_places la_ridges la_wayBlur la_wayLength bk_times bk_froms bk_asks bk_words bk_firsts bk_lies bk_held bk_size nu_learned nu_size to_letterMarks to_names to_spelled to_rows to_alike to_near to_asks to_letters to_words to_askCount) s.heap.size = A at hD hA hE ⊢
  have hS : va_S A s.heap s.heap [] := va_S.rf
  have C0 : cxt cX8_feed (some .int) 3 RX8 wsX8_feed (dC, dI) (tyz cB cI cJ cZ) (E_X adK adV) A p s m ([.ref (a 0), .long x1] : List Value).toArray meth c := ⟨hx, hb, hr, hml, hown, hts, hlocks, hK, hA, hE⟩
  have hl := lv_entry ([.ref (a 0), .long x1]) (n := 3) (Nat.le_of_ble_eq_true rfl)
  rw [lg_entry_eq]
  generalize (lg_sl ([.ref (a 0), .long x1]) ++ List.replicate (3 - (lg_sl ([.ref (a 0), .long x1])).length) Slot.unset).toArray = ls at hl ⊢
  have hl : lv_has ls 3 [(0, .ref (a 0)), (1, .long x1)] := hl
  have hw0 := hts (.fieldLink RX8 10 "WhistledWords" "tape" "LWhistledWords$Tape;") (by decide +kernel)
  have hw1 := hts (.fieldLink RX8 72 "WhistledWords$Tape" "size" "I") (by decide +kernel)
  have hnX8 : ∀ w ∈ u_ws RX8 TX8 8, w ∈ wsX8_feed := fun _ h => List.mem_cons_of_mem _ (List.mem_append_left _ (List.mem_append_right _ h))
  have hnX5 : ∀ w ∈ u_ws RX5 TX5 2, w ∈ wsX8_feed := fun _ h => List.mem_cons_of_mem _ (List.mem_append_right _ h)
  unfold fX8_feed at h
  refine lv_aload_n hx hb dX8_feed_0 rfl (lv_at hl 0 rfl) ?_
  refine gX_ww_tape hx hb hts hnX8 hown hK hP hw0 dX8_feed_1 ?_
  refine lv_lload_n hx hb dX8_feed_4 rfl (lv_at hl 1 rfl) ?_
  obtain ⟨v1, f2, v3, hc, h⟩ := bd3_use h
  refine cv_i (As := [.long x1]) (rest := []) ⟨hx, hb, hml, hown, hts⟩ (kX5_addEight l n dC dI cB cI cJ cZ a adK adV _ ww_latestFault tp_bytes tp_size rd_fault rd_faultPlace rd_kind rd_start rd_at rd_number dr_letterMarks dr_names dr_spelled dr_rows dr_alike dr_near dr_asks dr_letters dr_words dr_askCount sh_lanes sh_sizes sh_cells la_xs la_ys la_heights la_ridgeXs la_ridgeHeights la_way la_blurs la_steps la_places la_ridges la_wayBlur la_wayLength bk_times bk_froms bk_asks bk_words bk_firsts bk_lies bk_held bk_size nu_learned nu_size to_letterMarks to_names to_spelled to_rows to_alike to_near to_asks to_letters to_words to_askCount x1 v1 f2 v3 hc) (cwV 1 hts gX8_feed_X5_addEight rfl rfl rfl (by decide +kernel) ⟨Nat.le_of_ble_eq_true rfl, Nat.le_of_ble_eq_true rfl⟩) EB_X hE hK hP hD hS hA 1 (ci := 4) rfl rfl rfl rfl hl.1 rfl (Nat.le_of_ble_eq_true rfl) dX8_feed_5 ⟨Nat.zero_le _, Nat.zero_le _⟩ (fun H locs hP hD hS => ?_)
  refine lv_if_eq (tgt := 21) hx hb dX8_feed_8 (by decide) (fun c4 => ?_) (fun c4 => ?_)
  · have h := it_use c4 h
    refine lv_bipush (v := -3) hx hb dX8_feed_21 (by decide) ?_
    obtain ⟨er, ez0, ez1⟩ := rt3_use h
    subst ez0
    subst ez1
    exact re_i hx hb hr hlocks hK hP hD hS er dX8_feed_23
  · have h := ie_use c4 h
    refine lv_aload_n hx hb dX8_feed_11 rfl (lv_at hl 0 rfl) ?_
    refine gX_ww_tape hx hb hts hnX8 hown hK hP hw0 dX8_feed_12 ?_
    refine gX_tape_size hx hb hts hnX5 hown hK hP hw1 dX8_feed_15 ?_
    refine lv_goto (tgt := 23) hx hb dX8_feed_18 (by decide) ?_
    obtain ⟨er, ez0, ez1⟩ := rt3_use h
    subst ez0
    subst ez1
    exact re_i hx hb hr hlocks hK hP hD hS er dX8_feed_23
set_option maxHeartbeats 4000000 in
set_option maxRecDepth 100000 in
theorem kX8_end (l : Launch) (n : Nat) (dC : Nat → ClassId) (dI : Nat → Nat → Nat) (cB cI cJ cZ : ClassId) (a : Nat → Nat) (adK adV : Nat → Nat) (sz : Nat) (ww_latestFault : Int32) (tp_bytes : Nat → Int32) (tp_size : Int32) (rd_fault : Int32) (rd_faultPlace : Int32) (rd_kind : Int32) (rd_start : Int32) (rd_at : Int32) (rd_number : Int32) (dr_letterMarks : Nat → Int32) (dr_names : Nat → Int64) (dr_spelled : Nat → Int32) (dr_rows : Nat → Int64) (dr_alike : Nat → Int32) (dr_near : Nat → Int32) (dr_asks : Nat → Int32) (dr_letters : Int32) (dr_words : Int32) (dr_askCount : Int32) (sh_lanes : Nat → Int32) (sh_sizes : Nat → Int32) (sh_cells : Nat → Int32) (la_xs : Nat → Int32) (la_ys : Nat → Int32) (la_heights : Nat → Int32) (la_ridgeXs : Nat → Int32) (la_ridgeHeights : Nat → Int32) (la_way : Nat → Int32) (la_blurs : Nat → Int32) (la_steps : Nat → Int32) (la_places : Int32) (la_ridges : Int32) (la_wayBlur : Int32) (la_wayLength : Int32) (bk_times : Nat → Int32) (bk_froms : Nat → Int32) (bk_asks : Nat → Int32) (bk_words : Nat → Int32) (bk_firsts : Nat → Int32) (bk_lies : Nat → Int32) (bk_held : Nat → Int32) (bk_size : Int32) (nu_learned : Nat → Int32) (nu_size : Int32) (to_letterMarks : Nat → Int32) (to_names : Nat → Int64) (to_spelled : Nat → Int32) (to_rows : Nat → Int64) (to_alike : Nat → Int32) (to_near : Nat → Int32) (to_asks : Nat → Int32) (to_letters : Int32) (to_words : Int32) (to_askCount : Int32) (x1 : Int32) (r0 : Int32) (z_tp_size : Int32) (h : fX8_end n tp_size x1 = some (r0, z_tp_size)) : Met l yX8_end wsX8_end ({ frames := 0, cells := 0, slots := 0, locals := 0 }) (gP (dC, dI) (tyz cB cI cJ cZ) (E_X adK adV) (wX cB cI cJ cZ a (a 35) (a 4) ww_latestFault tp_bytes tp_size rd_fault rd_faultPlace rd_kind rd_start rd_at rd_number dr_letterMarks dr_names dr_spelled dr_rows dr_alike dr_near dr_asks dr_letters dr_words dr_askCount sh_lanes sh_sizes sh_cells la_xs la_ys la_heights la_ridgeXs la_ridgeHeights la_way la_blurs la_steps la_places la_ridges la_wayBlur la_wayLength bk_times bk_froms bk_asks bk_words bk_firsts bk_lies bk_held bk_size nu_learned nu_size to_letterMarks to_names to_spelled to_rows to_alike to_near to_asks to_letters to_words to_askCount) sz [.ref (a 0), .int x1]) (gI (dC, dI) (tyz cB cI cJ cZ) (wX cB cI cJ cZ a (a 35) (a 4) ww_latestFault tp_bytes z_tp_size rd_fault rd_faultPlace rd_kind rd_start rd_at rd_number dr_letterMarks dr_names dr_spelled dr_rows dr_alike dr_near dr_asks dr_letters dr_words dr_askCount sh_lanes sh_sizes sh_cells la_xs la_ys la_heights la_ridgeXs la_ridgeHeights la_way la_blurs la_steps la_places la_ridges la_wayBlur la_wayLength bk_times bk_froms bk_asks bk_words bk_firsts bk_lies bk_held bk_size nu_learned nu_size to_letterMarks to_names to_spelled to_rows to_alike to_near to_asks to_letters to_words to_askCount) (va_A (wX cB cI cJ cZ a (a 35) (a 4) ww_latestFault tp_bytes tp_size rd_fault rd_faultPlace rd_kind rd_start rd_at rd_number dr_letterMarks dr_names dr_spelled dr_rows dr_alike dr_near dr_asks dr_letters dr_words dr_askCount sh_lanes sh_sizes sh_cells la_xs la_ys la_heights la_ridgeXs la_ridgeHeights la_way la_blurs la_steps la_places la_ridges la_wayBlur la_wayLength bk_times bk_froms bk_asks bk_words bk_firsts bk_lies bk_held bk_size nu_learned nu_size to_letterMarks to_names to_spelled to_rows to_alike to_near to_asks to_letters to_words to_askCount) sz) r0) 0 0 (va_A (wX cB cI cJ cZ a (a 35) (a 4) ww_latestFault tp_bytes tp_size rd_fault rd_faultPlace rd_kind rd_start rd_at rd_number dr_letterMarks dr_names dr_spelled dr_rows dr_alike dr_near dr_asks dr_letters dr_words dr_askCount sh_lanes sh_sizes sh_cells la_xs la_ys la_heights la_ridgeXs la_ridgeHeights la_way la_blurs la_steps la_places la_ridges la_wayBlur la_wayLength bk_times bk_froms bk_asks bk_words bk_firsts bk_lies bk_held bk_size nu_learned nu_size to_letterMarks to_names to_spelled to_rows to_alike to_near to_asks to_letters to_words to_askCount) sz) := by
  refine Met.ofW (cc := cX8_end) (maxL := 3) (ret := (some .int)) (by decide) rfl ?_
  intro p e s m args below meth c s₁ B hml hv
  obtain ⟨rfl, hsz, hP, hK, hD0, hE⟩ := hv
  have hx := B.exec
  have hb := B.bytes
  have hr := B.returns
  have hts := atoms_spec (ws := wsX8_end) B.pre
  have hown : s.vm.findClass RX8 = some m.cls := findClass_of_methodNamed B.named
  have hlocks := B.notSynchronized
  subst hsz
  have hD := hD0.self (sz := s.heap.size)
  have hA : ∀ q : Nat, s.heap.size ≤ q → va_A (wX cB cI cJ cZ a (a 35) (a 4) ww_latestFault tp_bytes tp_size rd_fault rd_faultPlace rd_kind rd_start rd_at rd_number dr_letterMarks dr_names dr_spelled dr_rows dr_alike dr_near dr_asks dr_letters dr_words dr_askCount sh_lanes sh_sizes sh_cells la_xs la_ys la_heights la_ridgeXs la_ridgeHeights la_way la_blurs la_steps la_places la_ridges la_wayBlur la_wayLength bk_times bk_froms bk_asks bk_words bk_firsts bk_lies bk_held bk_size nu_learned nu_size to_letterMarks to_names to_spelled to_rows to_alike to_near to_asks to_letters to_words to_askCount) s.heap.size q := fun q h => Or.inr h
  generalize va_A (wX cB cI cJ cZ a (a 35) (a 4) ww_latestFault tp_bytes tp_size rd_fault rd_faultPlace rd_kind rd_start rd_at rd_number dr_letterMarks dr_names dr_spelled dr_rows dr_alike dr_near dr_asks dr_letters dr_words dr_askCount sh_lanes sh_sizes sh_cells la_xs la_ys la_heights la_ridgeXs la_ridgeHeights la_way la_blurs la_steps la_places la_ridges la_wayBlur la_wayLength bk_times bk_froms bk_asks bk_words bk_firsts bk_lies bk_held bk_size nu_learned nu_size to_letterMarks to_names to_spelled to_rows to_alike to_near to_asks to_letters to_words to_askCount) s.heap.size = A at hD hA hE ⊢
  have hS : va_S A s.heap s.heap [] := va_S.rf
  have C0 : cxt cX8_end (some .int) 3 RX8 wsX8_end (dC, dI) (tyz cB cI cJ cZ) (E_X adK adV) A p s m ([.ref (a 0), .int x1] : List Value).toArray meth c := ⟨hx, hb, hr, hml, hown, hts, hlocks, hK, hA, hE⟩
  have hl := lv_entry ([.ref (a 0), .int x1]) (n := 3) (Nat.le_of_ble_eq_true rfl)
  rw [lg_entry_eq]
  generalize (lg_sl ([.ref (a 0), .int x1]) ++ List.replicate (3 - (lg_sl ([.ref (a 0), .int x1])).length) Slot.unset).toArray = ls at hl ⊢
  have hl : lv_has ls 3 [(0, .ref (a 0)), (1, .int x1)] := hl
  have hw0 := hts (.fieldLink RX8 10 "WhistledWords" "tape" "LWhistledWords$Tape;") (by decide +kernel)
  have hw1 := hts (.fieldLink RX8 72 "WhistledWords$Tape" "size" "I") (by decide +kernel)
  have hnX8 : ∀ w ∈ u_ws RX8 TX8 8, w ∈ wsX8_end := fun _ h => List.mem_cons_of_mem _ (List.mem_append_left _ (List.mem_append_right _ h))
  have hnX5 : ∀ w ∈ u_ws RX5 TX5 2, w ∈ wsX8_end := fun _ h => List.mem_cons_of_mem _ (List.mem_append_right _ h)
  unfold fX8_end at h
  refine lv_aload_n hx hb dX8_end_0 rfl (lv_at hl 0 rfl) ?_
  refine gX_ww_tape hx hb hts hnX8 hown hK hP hw0 dX8_end_1 ?_
  refine gX_tape_size hx hb hts hnX5 hown hK hP hw1 dX8_end_4 ?_
  refine lv_istore_n (lv' := [(2, .int tp_size), (0, .ref (a 0)), (1, .int x1)]) hx hb dX8_end_7 rfl hl (by decide) rfl (fun ls hl => ?_)
  refine lv_iload_n hx hb dX8_end_8 rfl (lv_at hl 2 rfl) ?_
  refine lv_if_lt (tgt := 17) hx hb dX8_end_9 (by decide) (fun c1 => ?_) (fun c1 => ?_)
  · have h := it_use c1 h
    refine lv_iconst (v := -1) hx hb dX8_end_17 (by decide) ?_
    obtain ⟨er, ez0⟩ := rt2_use h
    subst ez0
    exact re_i hx hb hr hlocks hK hP hD hS er dX8_end_18
  · have h := ie_use c1 h
    refine lv_iload_n hx hb dX8_end_12 rfl (lv_at hl 2 rfl) ?_
    refine lv_iload_n hx hb dX8_end_13 rfl (lv_at hl 0 rfl) ?_
    refine lv_icmp_le (tgt := 19) hx hb dX8_end_14 (by decide) (fun c2 => ?_) (fun c2 => ?_)
    · have h := it_use c2 h
      refine lv_aload_n hx hb dX8_end_19 rfl (lv_at hl 1 rfl) ?_
      refine gX_ww_tape hx hb hts hnX8 hown hK hP hw0 dX8_end_20 ?_
      refine lv_iload_n hx hb dX8_end_23 rfl (lv_at hl 2 rfl) ?_
      refine pX_tape_size hx hb hts hnX5 hown hK hP hD hS hw1 dX8_end_24 (fun H locs hP hD hS => ?_)
      refine lv_iload_n hx hb dX8_end_27 rfl (lv_at hl 0 rfl) ?_
      obtain ⟨er, ez0⟩ := rt2_use h
      subst ez0
      exact re_i hx hb hr hlocks hK hP hD hS er dX8_end_28
    · have h := ie_use c2 h
      refine lv_iconst (v := -1) hx hb dX8_end_17 (by decide) ?_
      obtain ⟨er, ez0⟩ := rt2_use h
      subst ez0
      exact re_i hx hb hr hlocks hK hP hD hS er dX8_end_18
set_option maxHeartbeats 4000000 in
set_option maxRecDepth 100000 in
theorem kX8_fault (l : Launch) (n : Nat) (dC : Nat → ClassId) (dI : Nat → Nat → Nat) (cB cI cJ cZ : ClassId) (a : Nat → Nat) (adK adV : Nat → Nat) (sz : Nat) (ww_latestFault : Int32) (tp_bytes : Nat → Int32) (tp_size : Int32) (rd_fault : Int32) (rd_faultPlace : Int32) (rd_kind : Int32) (rd_start : Int32) (rd_at : Int32) (rd_number : Int32) (dr_letterMarks : Nat → Int32) (dr_names : Nat → Int64) (dr_spelled : Nat → Int32) (dr_rows : Nat → Int64) (dr_alike : Nat → Int32) (dr_near : Nat → Int32) (dr_asks : Nat → Int32) (dr_letters : Int32) (dr_words : Int32) (dr_askCount : Int32) (sh_lanes : Nat → Int32) (sh_sizes : Nat → Int32) (sh_cells : Nat → Int32) (la_xs : Nat → Int32) (la_ys : Nat → Int32) (la_heights : Nat → Int32) (la_ridgeXs : Nat → Int32) (la_ridgeHeights : Nat → Int32) (la_way : Nat → Int32) (la_blurs : Nat → Int32) (la_steps : Nat → Int32) (la_places : Int32) (la_ridges : Int32) (la_wayBlur : Int32) (la_wayLength : Int32) (bk_times : Nat → Int32) (bk_froms : Nat → Int32) (bk_asks : Nat → Int32) (bk_words : Nat → Int32) (bk_firsts : Nat → Int32) (bk_lies : Nat → Int32) (bk_held : Nat → Int32) (bk_size : Int32) (nu_learned : Nat → Int32) (nu_size : Int32) (to_letterMarks : Nat → Int32) (to_names : Nat → Int64) (to_spelled : Nat → Int32) (to_rows : Nat → Int64) (to_alike : Nat → Int32) (to_near : Nat → Int32) (to_asks : Nat → Int32) (to_letters : Int32) (to_words : Int32) (to_askCount : Int32)  (r0 : Int32) (h : fX8_fault n ww_latestFault = some r0) : Met l yX8_fault wsX8_fault ({ frames := 0, cells := 0, slots := 0, locals := 0 }) (gP (dC, dI) (tyz cB cI cJ cZ) (E_X adK adV) (wX cB cI cJ cZ a (a 35) (a 4) ww_latestFault tp_bytes tp_size rd_fault rd_faultPlace rd_kind rd_start rd_at rd_number dr_letterMarks dr_names dr_spelled dr_rows dr_alike dr_near dr_asks dr_letters dr_words dr_askCount sh_lanes sh_sizes sh_cells la_xs la_ys la_heights la_ridgeXs la_ridgeHeights la_way la_blurs la_steps la_places la_ridges la_wayBlur la_wayLength bk_times bk_froms bk_asks bk_words bk_firsts bk_lies bk_held bk_size nu_learned nu_size to_letterMarks to_names to_spelled to_rows to_alike to_near to_asks to_letters to_words to_askCount) sz [.ref (a 0)]) (gI (dC, dI) (tyz cB cI cJ cZ) (wX cB cI cJ cZ a (a 35) (a 4) ww_latestFault tp_bytes tp_size rd_fault rd_faultPlace rd_kind rd_start rd_at rd_number dr_letterMarks dr_names dr_spelled dr_rows dr_alike dr_near dr_asks dr_letters dr_words dr_askCount sh_lanes sh_sizes sh_cells la_xs la_ys la_heights la_ridgeXs la_ridgeHeights la_way la_blurs la_steps la_places la_ridges la_wayBlur la_wayLength bk_times bk_froms bk_asks bk_words bk_firsts bk_lies bk_held bk_size nu_learned nu_size to_letterMarks to_names to_spelled to_rows to_alike to_near to_asks to_letters to_words to_askCount) (va_A (wX cB cI cJ cZ a (a 35) (a 4) ww_latestFault tp_bytes tp_size rd_fault rd_faultPlace rd_kind rd_start rd_at rd_number dr_letterMarks dr_names dr_spelled dr_rows dr_alike dr_near dr_asks dr_letters dr_words dr_askCount sh_lanes sh_sizes sh_cells la_xs la_ys la_heights la_ridgeXs la_ridgeHeights la_way la_blurs la_steps la_places la_ridges la_wayBlur la_wayLength bk_times bk_froms bk_asks bk_words bk_firsts bk_lies bk_held bk_size nu_learned nu_size to_letterMarks to_names to_spelled to_rows to_alike to_near to_asks to_letters to_words to_askCount) sz) r0) 0 0 (va_A (wX cB cI cJ cZ a (a 35) (a 4) ww_latestFault tp_bytes tp_size rd_fault rd_faultPlace rd_kind rd_start rd_at rd_number dr_letterMarks dr_names dr_spelled dr_rows dr_alike dr_near dr_asks dr_letters dr_words dr_askCount sh_lanes sh_sizes sh_cells la_xs la_ys la_heights la_ridgeXs la_ridgeHeights la_way la_blurs la_steps la_places la_ridges la_wayBlur la_wayLength bk_times bk_froms bk_asks bk_words bk_firsts bk_lies bk_held bk_size nu_learned nu_size to_letterMarks to_names to_spelled to_rows to_alike to_near to_asks to_letters to_words to_askCount) sz) := by
  refine Met.ofW (cc := cX8_fault) (maxL := 1) (ret := (some .int)) (by decide) rfl ?_
  intro p e s m args below meth c s₁ B hml hv
  obtain ⟨rfl, hsz, hP, hK, hD0, hE⟩ := hv
  have hx := B.exec
  have hb := B.bytes
  have hr := B.returns
  have hts := atoms_spec (ws := wsX8_fault) B.pre
  have hown : s.vm.findClass RX8 = some m.cls := findClass_of_methodNamed B.named
  have hlocks := B.notSynchronized
  subst hsz
  have hD := hD0.self (sz := s.heap.size)
  have hA : ∀ q : Nat, s.heap.size ≤ q → va_A (wX cB cI cJ cZ a (a 35) (a 4) ww_latestFault tp_bytes tp_size rd_fault rd_faultPlace rd_kind rd_start rd_at rd_number dr_letterMarks dr_names dr_spelled dr_rows dr_alike dr_near dr_asks dr_letters dr_words dr_askCount sh_lanes sh_sizes sh_cells la_xs la_ys la_heights la_ridgeXs la_ridgeHeights la_way la_blurs la_steps la_places la_ridges la_wayBlur la_wayLength bk_times bk_froms bk_asks bk_words bk_firsts bk_lies bk_held bk_size nu_learned nu_size to_letterMarks to_names to_spelled to_rows to_alike to_near to_asks to_letters to_words to_askCount) s.heap.size q := fun q h => Or.inr h
  generalize va_A (wX cB cI cJ cZ a (a 35) (a 4) ww_latestFault tp_bytes tp_size rd_fault rd_faultPlace rd_kind rd_start rd_at rd_number dr_letterMarks dr_names dr_spelled dr_rows dr_alike dr_near dr_asks dr_letters dr_words dr_askCount sh_lanes sh_sizes sh_cells la_xs la_ys la_heights la_ridgeXs la_ridgeHeights la_way la_blurs la_steps la_places la_ridges la_wayBlur la_wayLength bk_times bk_froms bk_asks bk_words bk_firsts bk_lies bk_held bk_size nu_learned nu_size to_letterMarks to_names to_spelled to_rows to_alike to_near to_asks to_letters to_words to_askCount) s.heap.size = A at hD hA hE ⊢
  have hS : va_S A s.heap s.heap [] := va_S.rf
  have C0 : cxt cX8_fault (some .int) 1 RX8 wsX8_fault (dC, dI) (tyz cB cI cJ cZ) (E_X adK adV) A p s m ([.ref (a 0)] : List Value).toArray meth c := ⟨hx, hb, hr, hml, hown, hts, hlocks, hK, hA, hE⟩
  have hl := lv_entry ([.ref (a 0)]) (n := 1) (Nat.le_of_ble_eq_true rfl)
  rw [lg_entry_eq]
  generalize (lg_sl ([.ref (a 0)]) ++ List.replicate (1 - (lg_sl ([.ref (a 0)])).length) Slot.unset).toArray = ls at hl ⊢
  have hl : lv_has ls 1 [(0, .ref (a 0))] := hl
  have hw0 := hts (.fieldLink RX8 64 "WhistledWords" "latestFault" "I") (by decide +kernel)
  have hnX8 : ∀ w ∈ u_ws RX8 TX8 8, w ∈ wsX8_fault := fun _ h => List.mem_cons_of_mem _ (List.mem_append_right _ h)
  unfold fX8_fault at h
  refine lv_aload_n hx hb dX8_fault_0 rfl (lv_at hl 0 rfl) ?_
  refine gX_ww_latestFault hx hb hts hnX8 hown hK hP hw0 dX8_fault_1 ?_
  obtain er := rt1_use h
  exact re_i hx hb hr hlocks hK hP hD hS er dX8_fault_4
set_option maxHeartbeats 4000000 in
set_option maxRecDepth 100000 in
theorem kX7_isWord (l : Launch) (n : Nat) (dC : Nat → ClassId) (dI : Nat → Nat → Nat) (cB cI cJ cZ : ClassId) (a : Nat → Nat) (adK adV : Nat → Nat) (sz : Nat) (ww_latestFault : Int32) (tp_bytes : Nat → Int32) (tp_size : Int32) (rd_fault : Int32) (rd_faultPlace : Int32) (rd_kind : Int32) (rd_start : Int32) (rd_at : Int32) (rd_number : Int32) (dr_letterMarks : Nat → Int32) (dr_names : Nat → Int64) (dr_spelled : Nat → Int32) (dr_rows : Nat → Int64) (dr_alike : Nat → Int32) (dr_near : Nat → Int32) (dr_asks : Nat → Int32) (dr_letters : Int32) (dr_words : Int32) (dr_askCount : Int32) (sh_lanes : Nat → Int32) (sh_sizes : Nat → Int32) (sh_cells : Nat → Int32) (la_xs : Nat → Int32) (la_ys : Nat → Int32) (la_heights : Nat → Int32) (la_ridgeXs : Nat → Int32) (la_ridgeHeights : Nat → Int32) (la_way : Nat → Int32) (la_blurs : Nat → Int32) (la_steps : Nat → Int32) (la_places : Int32) (la_ridges : Int32) (la_wayBlur : Int32) (la_wayLength : Int32) (bk_times : Nat → Int32) (bk_froms : Nat → Int32) (bk_asks : Nat → Int32) (bk_words : Nat → Int32) (bk_firsts : Nat → Int32) (bk_lies : Nat → Int32) (bk_held : Nat → Int32) (bk_size : Int32) (nu_learned : Nat → Int32) (nu_size : Int32) (to_letterMarks : Nat → Int32) (to_names : Nat → Int64) (to_spelled : Nat → Int32) (to_rows : Nat → Int64) (to_alike : Nat → Int32) (to_near : Nat → Int32) (to_asks : Nat → Int32) (to_letters : Int32) (to_words : Int32) (to_askCount : Int32) (x1 : Int32) (r0 : Int32) (h : fX7_isWord n to_words x1 = some r0) : Met l yX7_isWord wsX7_isWord ({ frames := 0, cells := 0, slots := 0, locals := 0 }) (gP (dC, dI) (tyz cB cI cJ cZ) (E_X adK adV) (wX cB cI cJ cZ a (a 35) (a 4) ww_latestFault tp_bytes tp_size rd_fault rd_faultPlace rd_kind rd_start rd_at rd_number dr_letterMarks dr_names dr_spelled dr_rows dr_alike dr_near dr_asks dr_letters dr_words dr_askCount sh_lanes sh_sizes sh_cells la_xs la_ys la_heights la_ridgeXs la_ridgeHeights la_way la_blurs la_steps la_places la_ridges la_wayBlur la_wayLength bk_times bk_froms bk_asks bk_words bk_firsts bk_lies bk_held bk_size nu_learned nu_size to_letterMarks to_names to_spelled to_rows to_alike to_near to_asks to_letters to_words to_askCount) sz [.ref (a 35), .int x1]) (gI (dC, dI) (tyz cB cI cJ cZ) (wX cB cI cJ cZ a (a 35) (a 4) ww_latestFault tp_bytes tp_size rd_fault rd_faultPlace rd_kind rd_start rd_at rd_number dr_letterMarks dr_names dr_spelled dr_rows dr_alike dr_near dr_asks dr_letters dr_words dr_askCount sh_lanes sh_sizes sh_cells la_xs la_ys la_heights la_ridgeXs la_ridgeHeights la_way la_blurs la_steps la_places la_ridges la_wayBlur la_wayLength bk_times bk_froms bk_asks bk_words bk_firsts bk_lies bk_held bk_size nu_learned nu_size to_letterMarks to_names to_spelled to_rows to_alike to_near to_asks to_letters to_words to_askCount) (va_A (wX cB cI cJ cZ a (a 35) (a 4) ww_latestFault tp_bytes tp_size rd_fault rd_faultPlace rd_kind rd_start rd_at rd_number dr_letterMarks dr_names dr_spelled dr_rows dr_alike dr_near dr_asks dr_letters dr_words dr_askCount sh_lanes sh_sizes sh_cells la_xs la_ys la_heights la_ridgeXs la_ridgeHeights la_way la_blurs la_steps la_places la_ridges la_wayBlur la_wayLength bk_times bk_froms bk_asks bk_words bk_firsts bk_lies bk_held bk_size nu_learned nu_size to_letterMarks to_names to_spelled to_rows to_alike to_near to_asks to_letters to_words to_askCount) sz) r0) 0 0 (va_A (wX cB cI cJ cZ a (a 35) (a 4) ww_latestFault tp_bytes tp_size rd_fault rd_faultPlace rd_kind rd_start rd_at rd_number dr_letterMarks dr_names dr_spelled dr_rows dr_alike dr_near dr_asks dr_letters dr_words dr_askCount sh_lanes sh_sizes sh_cells la_xs la_ys la_heights la_ridgeXs la_ridgeHeights la_way la_blurs la_steps la_places la_ridges la_wayBlur la_wayLength bk_times bk_froms bk_asks bk_words bk_firsts bk_lies bk_held bk_size nu_learned nu_size to_letterMarks to_names to_spelled to_rows to_alike to_near to_asks to_letters to_words to_askCount) sz) := by
  refine Met.ofW (cc := cX7_isWord) (maxL := 2) (ret := (some .boolean)) (by decide) rfl ?_
  intro p e s m args below meth c s₁ B hml hv
  obtain ⟨rfl, hsz, hP, hK, hD0, hE⟩ := hv
  have hx := B.exec
  have hb := B.bytes
  have hr := B.returns
  have hts := atoms_spec (ws := wsX7_isWord) B.pre
  have hown : s.vm.findClass RX7 = some m.cls := findClass_of_methodNamed B.named
  have hlocks := B.notSynchronized
  subst hsz
  have hD := hD0.self (sz := s.heap.size)
  have hA : ∀ q : Nat, s.heap.size ≤ q → va_A (wX cB cI cJ cZ a (a 35) (a 4) ww_latestFault tp_bytes tp_size rd_fault rd_faultPlace rd_kind rd_start rd_at rd_number dr_letterMarks dr_names dr_spelled dr_rows dr_alike dr_near dr_asks dr_letters dr_words dr_askCount sh_lanes sh_sizes sh_cells la_xs la_ys la_heights la_ridgeXs la_ridgeHeights la_way la_blurs la_steps la_places la_ridges la_wayBlur la_wayLength bk_times bk_froms bk_asks bk_words bk_firsts bk_lies bk_held bk_size nu_learned nu_size to_letterMarks to_names to_spelled to_rows to_alike to_near to_asks to_letters to_words to_askCount) s.heap.size q := fun q h => Or.inr h
  generalize va_A (wX cB cI cJ cZ a (a 35) (a 4) ww_latestFault tp_bytes tp_size rd_fault rd_faultPlace rd_kind rd_start rd_at rd_number dr_letterMarks dr_names dr_spelled dr_rows dr_alike dr_near dr_asks dr_letters dr_words dr_askCount sh_lanes sh_sizes sh_cells la_xs la_ys la_heights la_ridgeXs la_ridgeHeights la_way la_blurs la_steps la_places la_ridges la_wayBlur la_wayLength bk_times bk_froms bk_asks bk_words bk_firsts bk_lies bk_held bk_size nu_learned nu_size to_letterMarks to_names to_spelled to_rows to_alike to_near to_asks to_letters to_words to_askCount) s.heap.size = A at hD hA hE ⊢
  have hS : va_S A s.heap s.heap [] := va_S.rf
  have C0 : cxt cX7_isWord (some .boolean) 2 RX7 wsX7_isWord (dC, dI) (tyz cB cI cJ cZ) (E_X adK adV) A p s m ([.ref (a 35), .int x1] : List Value).toArray meth c := ⟨hx, hb, hr, hml, hown, hts, hlocks, hK, hA, hE⟩
  have hl := lv_entry ([.ref (a 35), .int x1]) (n := 2) (Nat.le_of_ble_eq_true rfl)
  rw [lg_entry_eq]
  generalize (lg_sl ([.ref (a 35), .int x1]) ++ List.replicate (2 - (lg_sl ([.ref (a 35), .int x1])).length) Slot.unset).toArray = ls at hl ⊢
  have hl : lv_has ls 2 [(0, .ref (a 35)), (1, .int x1)] := hl
  have hw0 := hts (.fieldLink RX7 44 "WhistledWords$Tongue" "words" "I") (by decide +kernel)
  have hnX7 : ∀ w ∈ u_ws RX7 TX7 10, w ∈ wsX7_isWord := fun _ h => List.mem_cons_of_mem _ (List.mem_append_right _ h)
  unfold fX7_isWord at h
  refine lv_iload_n hx hb dX7_isWord_0 rfl (lv_at hl 1 rfl) ?_
  refine lv_if_lt (tgt := 16) hx hb dX7_isWord_1 (by decide) (fun c1 => ?_) (fun c1 => ?_)
  · have h := it_use c1 h
    refine lv_iconst (v := 0) hx hb dX7_isWord_16 (by decide) ?_
    obtain er := rt1_use h
    exact re_z hx hb hr hlocks hK hP hD hS (Or.inl rfl) er dX7_isWord_17
  · have h := ie_use c1 h
    refine lv_iload_n hx hb dX7_isWord_4 rfl (lv_at hl 1 rfl) ?_
    refine lv_aload_n hx hb dX7_isWord_5 rfl (lv_at hl 0 rfl) ?_
    refine gX_told_words hx hb hts hnX7 hown hK hP hw0 dX7_isWord_6 ?_
    refine lv_icmp_ge (tgt := 16) hx hb dX7_isWord_9 (by decide) (fun c2 => ?_) (fun c2 => ?_)
    · have h := it_use c2 h
      refine lv_iconst (v := 0) hx hb dX7_isWord_16 (by decide) ?_
      obtain er := rt1_use h
      exact re_z hx hb hr hlocks hK hP hD hS (Or.inl rfl) er dX7_isWord_17
    · have h := ie_use c2 h
      refine lv_iconst (v := 1) hx hb dX7_isWord_12 (by decide) ?_
      refine lv_goto (tgt := 17) hx hb dX7_isWord_13 (by decide) ?_
      obtain er := rt1_use h
      exact re_z hx hb hr hlocks hK hP hD hS (Or.inr rfl) er dX7_isWord_17
set_option maxHeartbeats 4000000 in
set_option maxRecDepth 100000 in
theorem kX3_markAt (l : Launch) (n : Nat) (x0 : Int64) (x2 : Int32) (r0 : Int32) (h : fX3_markAt n  x0 x2 = some r0) : Met l yX3_markAt wsX3_markAt ({ frames := 0, cells := 0, slots := 0, locals := 0 }) (pP [.long x0, .int x2]) (pI r0) 0 0 no_A := by
  refine Met.ofW (cc := cX3_markAt) (maxL := 4) (ret := (some .int)) (by decide) rfl ?_
  intro p e s m args below meth c s₁ B hml hv
  obtain ⟨rfl, -⟩ := hv
  have hx := B.exec
  have hb := B.bytes
  have hr := B.returns
  have hts := atoms_spec (ws := wsX3_markAt) B.pre
  have hown : s.vm.findClass RX3 = some m.cls := findClass_of_methodNamed B.named
  have hlocks := B.notSynchronized
  have hS : va_S no_A s.heap s.heap [] := va_S.rf
  have C0 : cxp cX3_markAt (some .int) 4 RX3 wsX3_markAt p s m ([.long x0, .int x2] : List Value).toArray meth c := ⟨hx, hb, hr, hml, hown, hts, hlocks⟩
  have hl := lv_entry ([.long x0, .int x2]) (n := 4) (Nat.le_of_ble_eq_true rfl)
  rw [lg_entry_eq]
  generalize (lg_sl ([.long x0, .int x2]) ++ List.replicate (4 - (lg_sl ([.long x0, .int x2])).length) Slot.unset).toArray = ls at hl ⊢
  have hl : lv_has ls 4 [(0, .long x0), (2, .int x2)] := hl
  unfold fX3_markAt at h
  refine lv_iload_n hx hb dX3_markAt_0 rfl (lv_at hl 1 rfl) ?_
  refine lv_if_lt (tgt := 10) hx hb dX3_markAt_1 (by decide) (fun c1 => ?_) (fun c1 => ?_)
  · have h := it_use c1 h
    refine lv_bipush (v := -4) hx hb dX3_markAt_10 (by decide) ?_
    obtain er := rt1_use h
    exact rp_i hx hb hr hlocks hS er dX3_markAt_12
  · have h := ie_use c1 h
    refine lv_iload_n hx hb dX3_markAt_4 rfl (lv_at hl 1 rfl) ?_
    refine lv_bipush (v := 8) hx hb dX3_markAt_5 (by decide) ?_
    refine lv_icmp_lt (tgt := 13) hx hb dX3_markAt_7 (by decide) (fun c2 => ?_) (fun c2 => ?_)
    · have h := it_use c2 h
      refine lv_lload_n hx hb dX3_markAt_13 rfl (lv_at hl 0 rfl) ?_
      refine lv_iconst (v := 5) hx hb dX3_markAt_14 (by decide) ?_
      refine lv_iload_n hx hb dX3_markAt_15 rfl (lv_at hl 1 rfl) ?_
      refine lv_imul hx hb dX3_markAt_16 ?_
      refine lv_lushr hx hb dX3_markAt_17 rfl ?_
      refine lv_l2i hx hb dX3_markAt_18 rfl ?_
      refine lv_bipush (v := 31) hx hb dX3_markAt_19 (by decide) ?_
      refine lv_iand hx hb dX3_markAt_21 ?_
      refine lv_topi (fun v3 ev3 => ?_)
      have h := nm_use ev3 h
      refine lv_istore_n (lv' := [(3, .int v3), (0, .long x0), (2, .int x2)]) hx hb dX3_markAt_22 rfl hl (by decide) rfl (fun ls hl => ?_)
      refine lv_iload_n hx hb dX3_markAt_23 rfl (lv_at hl 0 rfl) ?_
      refine lv_if_ne (tgt := 32) hx hb dX3_markAt_24 (by decide) (fun c4 => ?_) (fun c4 => ?_)
      · have h := ie_use c4 h
        refine lv_iload_n hx hb dX3_markAt_32 rfl (lv_at hl 0 rfl) ?_
        refine lv_iconst (v := 1) hx hb dX3_markAt_33 (by decide) ?_
        refine lv_isub hx hb dX3_markAt_34 ?_
        obtain er := rt1_use h
        exact rp_i hx hb hr hlocks hS er dX3_markAt_35
      · have h := it_use c4 h
        refine lv_bipush (v := -4) hx hb dX3_markAt_27 (by decide) ?_
        refine lv_goto (tgt := 35) hx hb dX3_markAt_29 (by decide) ?_
        obtain er := rt1_use h
        exact rp_i hx hb hr hlocks hS er dX3_markAt_35
    · have h := ie_use c2 h
      refine lv_bipush (v := -4) hx hb dX3_markAt_10 (by decide) ?_
      obtain er := rt1_use h
      exact rp_i hx hb hr hlocks hS er dX3_markAt_12
set_option maxHeartbeats 4000000 in
set_option maxRecDepth 100000 in
theorem kX3_length_p2_r {p : Program} {l : Launch} {e : Env} {s : State} {m : MethodId} {args : Array Value} {below : List Frame} {meth : Method} {c : Code} (C0 : cxp cX3_length (some .int) 3 RX3 wsX3_length p s m args meth c) (n : Nat)  (x0 : Int64) (r0 : Int32)  : ∀ (k : Nat) (x2 : Int32) (H : Heap) (locs : List Loc) (ls : Array Slot), fX3_length_p2 n x0 k x2 = some r0 → va_S no_A s.heap H locs → lv_has ls 3 [(0, .long x0), (2, .int x2)] → W p l e { frames := 1, cells := 0, slots := 0, locals := 23 } s m args below meth c H locs 0 0 (MQ below (pI r0) args s 0 0 no_A) (F0 m 2 ls []) := by
  obtain ⟨hx, hb, hr, hml, hown, hts, hlocks⟩ := id C0
  intro k
  induction k with
  | zero =>
    intro x2 H locs ls h
    cases h
  | succ k ih =>
    intro x2 H locs ls h hS hl
    rw [fX3_length_p2] at h
    refine lv_iload_n hx hb dX3_length_2 rfl (lv_at hl 1 rfl) ?_
    refine lv_bipush (v := 8) hx hb dX3_length_3 (by decide) ?_
    refine lv_icmp_ge (tgt := 24) hx hb dX3_length_5 (by decide) (fun c1 => ?_) (fun c1 => ?_)
    · have h := it_use c1 h
      refine lv_iload_n hx hb dX3_length_24 rfl (lv_at hl 1 rfl) ?_
      obtain er := rt1_use h
      exact rp_i hx hb hr hlocks hS er dX3_length_25
    · have h := ie_use c1 h
      refine lv_lload_n hx hb dX3_length_8 rfl (lv_at hl 0 rfl) ?_
      refine lv_iload_n hx hb dX3_length_9 rfl (lv_at hl 1 rfl) ?_
      obtain ⟨v2, hc, h⟩ := bd1_use h
      refine cp_i (As := [.long x0, .int x2]) (rest := []) ⟨hx, hb, hml, hown, hts⟩ (kX3_markAt l n x0 x2 v2 hc) (va_cwS 2 hts gX3_length_X3_markAt rfl rfl rfl (by decide +kernel) ⟨Nat.le_of_ble_eq_true rfl, Nat.le_of_ble_eq_true rfl⟩) hS rfl hl.1 rfl (Nat.le_of_ble_eq_true rfl) dX3_length_10 ⟨Nat.zero_le _, Nat.zero_le _⟩ (fun H locs hS => ?_)
      refine lv_bipush (v := -4) hx hb dX3_length_13 (by decide) ?_
      refine lv_icmp_eq (tgt := 24) hx hb dX3_length_15 (by decide) (fun c3 => ?_) (fun c3 => ?_)
      · have h := it_use c3 h
        refine lv_iload_n hx hb dX3_length_24 rfl (lv_at hl 1 rfl) ?_
        obtain er := rt1_use h
        exact rp_i hx hb hr hlocks hS er dX3_length_25
      · have h := ie_use c3 h
        refine lv_iinc (v := x2 + 1) (lv' := [(2, .int (x2 + 1)), (0, .long x0)]) hx hb dX3_length_18 hl (k := 1) rfl rfl (by decide) rfl (fun ls hl => ?_)
        refine lv_goto (tgt := 2) hx hb dX3_length_21 (by decide) ?_
        exact ih (x2 + 1) _ _ ls h hS (lv_sub hl [1, 0] rfl)
theorem kX3_length_p2 {p : Program} {l : Launch} {e : Env} {s : State} {m : MethodId} {args : Array Value} {below : List Frame} {meth : Method} {c : Code} (C0 : cxp cX3_length (some .int) 3 RX3 wsX3_length p s m args meth c) (n : Nat)  (x0 : Int64) (x2 : Int32) (r0 : Int32)  (k : Nat) (H : Heap) (locs : List Loc) (ls : Array Slot) : fX3_length_p2 n x0 k x2 = some r0 → va_S no_A s.heap H locs → lv_has ls 3 [(0, .long x0), (2, .int x2)] → W p l e { frames := 1, cells := 0, slots := 0, locals := 23 } s m args below meth c H locs 0 0 (MQ below (pI r0) args s 0 0 no_A) (F0 m 2 ls []) :=
  kX3_length_p2_r C0 n  x0 r0  k x2 H locs ls
set_option maxHeartbeats 4000000 in
set_option maxRecDepth 100000 in
theorem kX3_length (l : Launch) (n : Nat) (x0 : Int64) (r0 : Int32) (h : fX3_length n  x0 = some r0) : Met l yX3_length wsX3_length ({ frames := 1, cells := 0, slots := 0, locals := 23 }) (pP [.long x0]) (pI r0) 0 0 no_A := by
  refine Met.ofW (cc := cX3_length) (maxL := 3) (ret := (some .int)) (by decide) rfl ?_
  intro p e s m args below meth c s₁ B hml hv
  obtain ⟨rfl, -⟩ := hv
  have hx := B.exec
  have hb := B.bytes
  have hr := B.returns
  have hts := atoms_spec (ws := wsX3_length) B.pre
  have hown : s.vm.findClass RX3 = some m.cls := findClass_of_methodNamed B.named
  have hlocks := B.notSynchronized
  have hS : va_S no_A s.heap s.heap [] := va_S.rf
  have C0 : cxp cX3_length (some .int) 3 RX3 wsX3_length p s m ([.long x0] : List Value).toArray meth c := ⟨hx, hb, hr, hml, hown, hts, hlocks⟩
  have hl := lv_entry ([.long x0]) (n := 3) (Nat.le_of_ble_eq_true rfl)
  rw [lg_entry_eq]
  generalize (lg_sl ([.long x0]) ++ List.replicate (3 - (lg_sl ([.long x0])).length) Slot.unset).toArray = ls at hl ⊢
  have hl : lv_has ls 3 [(0, .long x0)] := hl
  unfold fX3_length at h
  refine lv_iconst (v := 0) hx hb dX3_length_0 (by decide) ?_
  refine lv_istore_n (lv' := [(2, .int (0 : Int32)), (0, .long x0)]) hx hb dX3_length_1 rfl hl (by decide) rfl (fun ls hl => ?_)
  exact kX3_length_p2 C0 n  x0 (0 : Int32) r0  n _ _ ls h hS (lv_sub hl [1, 0] rfl)
set_option maxHeartbeats 4000000 in
set_option maxRecDepth 100000 in
theorem kX3_heights_p10_r {p : Program} {l : Launch} {e : Env} {s : State} {m : MethodId} {args : Array Value} {below : List Frame} {meth : Method} {c : Code} (C0 : cxp cX3_heights (some .int) 5 RX3 wsX3_heights p s m args meth c) (n : Nat)  (x0 : Int64) (x3 : Int32) (r0 : Int32)  : ∀ (k : Nat) (x2 : Int32) (x4 : Int32) (H : Heap) (locs : List Loc) (ls : Array Slot), fX3_heights_p10 n x0 x3 k x2 x4 = some r0 → va_S no_A s.heap H locs → lv_has ls 5 [(0, .long x0), (2, .int x2), (3, .int x3), (4, .int x4)] → W p l e { frames := 2, cells := 0, slots := 0, locals := 45 } s m args below meth c H locs 0 0 (MQ below (pI r0) args s 0 0 no_A) (F0 m 10 ls []) := by
  obtain ⟨hx, hb, hr, hml, hown, hts, hlocks⟩ := id C0
  intro k
  induction k with
  | zero =>
    intro x2 x4 H locs ls h
    cases h
  | succ k ih =>
    intro x2 x4 H locs ls h hS hl
    rw [fX3_heights_p10] at h
    refine lv_iload hx hb dX3_heights_10 (lv_at hl 3 rfl) ?_
    refine lv_iload_n hx hb dX3_heights_12 rfl (lv_at hl 2 rfl) ?_
    refine lv_icmp_ge (tgt := 36) hx hb dX3_heights_13 (by decide) (fun c1 => ?_) (fun c1 => ?_)
    · have h := it_use c1 h
      refine lv_iload_n hx hb dX3_heights_36 rfl (lv_at hl 1 rfl) ?_
      obtain er := rt1_use h
      exact rp_i hx hb hr hlocks hS er dX3_heights_37
    · have h := ie_use c1 h
      refine lv_lload_n hx hb dX3_heights_16 rfl (lv_at hl 0 rfl) ?_
      refine lv_iload hx hb dX3_heights_17 (lv_at hl 3 rfl) ?_
      obtain ⟨v2, hc, h⟩ := bd1_use h
      refine cp_i (As := [.long x0, .int x4]) (rest := []) ⟨hx, hb, hml, hown, hts⟩ (kX3_markAt l n x0 x4 v2 hc) (va_cwS 2 hts gX3_heights_X3_markAt rfl rfl rfl (by decide +kernel) ⟨Nat.le_of_ble_eq_true rfl, Nat.le_of_ble_eq_true rfl⟩) hS rfl hl.1 rfl (Nat.le_of_ble_eq_true rfl) dX3_heights_19 ⟨Nat.zero_le _, Nat.zero_le _⟩ (fun H locs hS => ?_)
      refine lv_bipush (v := 16) hx hb dX3_heights_22 (by decide) ?_
      refine lv_icmp_ge (tgt := 30) hx hb dX3_heights_24 (by decide) (fun c3 => ?_) (fun c3 => ?_)
      · have h := it_use c3 h
        refine lv_iinc (v := x4 + 1) (lv' := [(4, .int (x4 + 1)), (0, .long x0), (2, .int x2), (3, .int x3)]) hx hb dX3_heights_30 hl (k := 3) rfl rfl (by decide) rfl (fun ls hl => ?_)
        refine lv_goto (tgt := 10) hx hb dX3_heights_33 (by decide) ?_
        exact ih x2 (x4 + 1) _ _ ls h hS (lv_sub hl [1, 2, 3, 0] rfl)
      · have h := ie_use c3 h
        refine lv_iinc (v := x2 + 1) (lv' := [(2, .int (x2 + 1)), (0, .long x0), (3, .int x3), (4, .int x4)]) hx hb dX3_heights_27 hl (k := 1) rfl rfl (by decide) rfl (fun ls hl => ?_)
        refine lv_iinc (v := x4 + 1) (lv' := [(4, .int (x4 + 1)), (2, .int (x2 + 1)), (0, .long x0), (3, .int x3)]) hx hb dX3_heights_30 hl (k := 3) rfl rfl (by decide) rfl (fun ls hl => ?_)
        refine lv_goto (tgt := 10) hx hb dX3_heights_33 (by decide) ?_
        exact ih (x2 + 1) (x4 + 1) _ _ ls h hS (lv_sub hl [2, 1, 3, 0] rfl)
theorem kX3_heights_p10 {p : Program} {l : Launch} {e : Env} {s : State} {m : MethodId} {args : Array Value} {below : List Frame} {meth : Method} {c : Code} (C0 : cxp cX3_heights (some .int) 5 RX3 wsX3_heights p s m args meth c) (n : Nat)  (x0 : Int64) (x2 : Int32) (x3 : Int32) (x4 : Int32) (r0 : Int32)  (k : Nat) (H : Heap) (locs : List Loc) (ls : Array Slot) : fX3_heights_p10 n x0 x3 k x2 x4 = some r0 → va_S no_A s.heap H locs → lv_has ls 5 [(0, .long x0), (2, .int x2), (3, .int x3), (4, .int x4)] → W p l e { frames := 2, cells := 0, slots := 0, locals := 45 } s m args below meth c H locs 0 0 (MQ below (pI r0) args s 0 0 no_A) (F0 m 10 ls []) :=
  kX3_heights_p10_r C0 n  x0 x3 r0  k x2 x4 H locs ls
set_option maxHeartbeats 4000000 in
set_option maxRecDepth 100000 in
theorem kX3_heights (l : Launch) (n : Nat) (x0 : Int64) (r0 : Int32) (h : fX3_heights n  x0 = some r0) : Met l yX3_heights wsX3_heights ({ frames := 2, cells := 0, slots := 0, locals := 45 }) (pP [.long x0]) (pI r0) 0 0 no_A := by
  refine Met.ofW (cc := cX3_heights) (maxL := 5) (ret := (some .int)) (by decide) rfl ?_
  intro p e s m args below meth c s₁ B hml hv
  obtain ⟨rfl, -⟩ := hv
  have hx := B.exec
  have hb := B.bytes
  have hr := B.returns
  have hts := atoms_spec (ws := wsX3_heights) B.pre
  have hown : s.vm.findClass RX3 = some m.cls := findClass_of_methodNamed B.named
  have hlocks := B.notSynchronized
  have hS : va_S no_A s.heap s.heap [] := va_S.rf
  have C0 : cxp cX3_heights (some .int) 5 RX3 wsX3_heights p s m ([.long x0] : List Value).toArray meth c := ⟨hx, hb, hr, hml, hown, hts, hlocks⟩
  have hl := lv_entry ([.long x0]) (n := 5) (Nat.le_of_ble_eq_true rfl)
  rw [lg_entry_eq]
  generalize (lg_sl ([.long x0]) ++ List.replicate (5 - (lg_sl ([.long x0])).length) Slot.unset).toArray = ls at hl ⊢
  have hl : lv_has ls 5 [(0, .long x0)] := hl
  unfold fX3_heights at h
  refine lv_iconst (v := 0) hx hb dX3_heights_0 (by decide) ?_
  refine lv_istore_n (lv' := [(2, .int (0 : Int32)), (0, .long x0)]) hx hb dX3_heights_1 rfl hl (by decide) rfl (fun ls hl => ?_)
  refine lv_lload_n hx hb dX3_heights_2 rfl (lv_at hl 1 rfl) ?_
  obtain ⟨v1, hc, h⟩ := bd1_use h
  refine cp_i (As := [.long x0]) (rest := []) ⟨hx, hb, hml, hown, hts⟩ (kX3_length l n x0 v1 hc) (va_cwS 1 hts gX3_heights_X3_length rfl rfl rfl (by decide +kernel) ⟨Nat.le_of_ble_eq_true rfl, Nat.le_of_ble_eq_true rfl⟩) hS rfl hl.1 rfl (Nat.le_of_ble_eq_true rfl) dX3_heights_3 ⟨Nat.zero_le _, Nat.zero_le _⟩ (fun H locs hS => ?_)
  refine lv_istore_n (lv' := [(3, .int v1), (2, .int (0 : Int32)), (0, .long x0)]) hx hb dX3_heights_6 rfl hl (by decide) rfl (fun ls hl => ?_)
  refine lv_iconst (v := 0) hx hb dX3_heights_7 (by decide) ?_
  refine lv_istore (lv' := [(4, .int (0 : Int32)), (3, .int v1), (2, .int (0 : Int32)), (0, .long x0)]) hx hb dX3_heights_8 hl (by decide) rfl (fun ls hl => ?_)
  exact kX3_heights_p10 C0 n  x0 (0 : Int32) v1 (0 : Int32) r0  n _ _ ls h hS (lv_sub hl [3, 2, 1, 0] rfl)
set_option maxHeartbeats 4000000 in
set_option maxRecDepth 100000 in
theorem kX8_isIn (l : Launch) (n : Nat) (x0 : Int32) (x1 : Int32) (r0 : Int32) (h : fX8_isIn n  x0 x1 = some r0) : Met l yX8_isIn wsX8_isIn ({ frames := 0, cells := 0, slots := 0, locals := 0 }) (pP [.int x0, .int x1]) (pI r0) 0 0 no_A := by
  refine Met.ofW (cc := cX8_isIn) (maxL := 2) (ret := (some .boolean)) (by decide) rfl ?_
  intro p e s m args below meth c s₁ B hml hv
  obtain ⟨rfl, -⟩ := hv
  have hx := B.exec
  have hb := B.bytes
  have hr := B.returns
  have hts := atoms_spec (ws := wsX8_isIn) B.pre
  have hown : s.vm.findClass RX8 = some m.cls := findClass_of_methodNamed B.named
  have hlocks := B.notSynchronized
  have hS : va_S no_A s.heap s.heap [] := va_S.rf
  have C0 : cxp cX8_isIn (some .boolean) 2 RX8 wsX8_isIn p s m ([.int x0, .int x1] : List Value).toArray meth c := ⟨hx, hb, hr, hml, hown, hts, hlocks⟩
  have hl := lv_entry ([.int x0, .int x1]) (n := 2) (Nat.le_of_ble_eq_true rfl)
  rw [lg_entry_eq]
  generalize (lg_sl ([.int x0, .int x1]) ++ List.replicate (2 - (lg_sl ([.int x0, .int x1])).length) Slot.unset).toArray = ls at hl ⊢
  have hl : lv_has ls 2 [(0, .int x0), (1, .int x1)] := hl
  unfold fX8_isIn at h
  refine lv_iload_n hx hb dX8_isIn_0 rfl (lv_at hl 0 rfl) ?_
  refine lv_iload_n hx hb dX8_isIn_1 rfl (lv_at hl 1 rfl) ?_
  refine lv_ishr hx hb dX8_isIn_2 ?_
  refine lv_iconst (v := 1) hx hb dX8_isIn_3 (by decide) ?_
  refine lv_iand hx hb dX8_isIn_4 ?_
  refine lv_if_eq (tgt := 12) hx hb dX8_isIn_5 (by decide) (fun c1 => ?_) (fun c1 => ?_)
  · have h := it_use c1 h
    refine lv_iconst (v := 0) hx hb dX8_isIn_12 (by decide) ?_
    obtain er := rt1_use h
    exact rp_z hx hb hr hlocks hS (Or.inl rfl) er dX8_isIn_13
  · have h := ie_use c1 h
    refine lv_iconst (v := 1) hx hb dX8_isIn_8 (by decide) ?_
    refine lv_goto (tgt := 13) hx hb dX8_isIn_9 (by decide) ?_
    obtain er := rt1_use h
    exact rp_z hx hb hr hlocks hS (Or.inr rfl) er dX8_isIn_13
set_option maxHeartbeats 4000000 in
set_option maxRecDepth 100000 in
theorem kX7_asksWith_p4_r {p : Program} {l : Launch} {e : Env} {s : State} {m : MethodId} {args : Array Value} {below : List Frame} {meth : Method} {c : Code} {A : Nat → Prop} (dC : Nat → ClassId) (dI : Nat → Nat → Nat) (cB cI cJ cZ : ClassId) (a : Nat → Nat) (adK adV : Nat → Nat) (C0 : cxt cX7_asksWith (some .int) 4 RX7 wsX7_asksWith (dC, dI) (tyz cB cI cJ cZ) (E_X adK adV) A p s m args meth c) (n : Nat) (ww_latestFault : Int32) (tp_bytes : Nat → Int32) (tp_size : Int32) (rd_fault : Int32) (rd_faultPlace : Int32) (rd_kind : Int32) (rd_start : Int32) (rd_at : Int32) (rd_number : Int32) (dr_letterMarks : Nat → Int32) (dr_names : Nat → Int64) (dr_spelled : Nat → Int32) (dr_rows : Nat → Int64) (dr_alike : Nat → Int32) (dr_near : Nat → Int32) (dr_asks : Nat → Int32) (dr_letters : Int32) (dr_words : Int32) (dr_askCount : Int32) (sh_lanes : Nat → Int32) (sh_sizes : Nat → Int32) (sh_cells : Nat → Int32) (la_xs : Nat → Int32) (la_ys : Nat → Int32) (la_heights : Nat → Int32) (la_ridgeXs : Nat → Int32) (la_ridgeHeights : Nat → Int32) (la_way : Nat → Int32) (la_blurs : Nat → Int32) (la_steps : Nat → Int32) (la_places : Int32) (la_ridges : Int32) (la_wayBlur : Int32) (la_wayLength : Int32) (bk_times : Nat → Int32) (bk_froms : Nat → Int32) (bk_asks : Nat → Int32) (bk_words : Nat → Int32) (bk_firsts : Nat → Int32) (bk_lies : Nat → Int32) (bk_held : Nat → Int32) (bk_size : Int32) (nu_learned : Nat → Int32) (nu_size : Int32) (to_letterMarks : Nat → Int32) (to_names : Nat → Int64) (to_spelled : Nat → Int32) (to_rows : Nat → Int64) (to_alike : Nat → Int32) (to_near : Nat → Int32) (to_asks : Nat → Int32) (to_letters : Int32) (to_words : Int32) (to_askCount : Int32) (x1 : Int32) (r0 : Int32)  : ∀ (k : Nat) (x2 : Int32) (x3 : Int32) (H : Heap) (locs : List Loc) (ls : Array Slot), fX7_asksWith_p4 n to_asks to_askCount x1 k x2 x3 = some r0 → va_P (dC, dI) vwCl (wX cB cI cJ cZ a (a 35) (a 4) ww_latestFault tp_bytes tp_size rd_fault rd_faultPlace rd_kind rd_start rd_at rd_number dr_letterMarks dr_names dr_spelled dr_rows dr_alike dr_near dr_asks dr_letters dr_words dr_askCount sh_lanes sh_sizes sh_cells la_xs la_ys la_heights la_ridgeXs la_ridgeHeights la_way la_blurs la_steps la_places la_ridges la_wayBlur la_wayLength bk_times bk_froms bk_asks bk_words bk_firsts bk_lies bk_held bk_size nu_learned nu_size to_letterMarks to_names to_spelled to_rows to_alike to_near to_asks to_letters to_words to_askCount) H → va_D A (wX cB cI cJ cZ a (a 35) (a 4) ww_latestFault tp_bytes tp_size rd_fault rd_faultPlace rd_kind rd_start rd_at rd_number dr_letterMarks dr_names dr_spelled dr_rows dr_alike dr_near dr_asks dr_letters dr_words dr_askCount sh_lanes sh_sizes sh_cells la_xs la_ys la_heights la_ridgeXs la_ridgeHeights la_way la_blurs la_steps la_places la_ridges la_wayBlur la_wayLength bk_times bk_froms bk_asks bk_words bk_firsts bk_lies bk_held bk_size nu_learned nu_size to_letterMarks to_names to_spelled to_rows to_alike to_near to_asks to_letters to_words to_askCount) → va_S A s.heap H locs → lv_has ls 4 [(0, .ref (a 35)), (1, .int x1), (2, .int x2), (3, .int x3)] → W p l e { frames := 1, cells := 0, slots := 0, locals := 21 } s m args below meth c H locs 0 0 (MQ below (gI (dC, dI) (tyz cB cI cJ cZ) (wX cB cI cJ cZ a (a 35) (a 4) ww_latestFault tp_bytes tp_size rd_fault rd_faultPlace rd_kind rd_start rd_at rd_number dr_letterMarks dr_names dr_spelled dr_rows dr_alike dr_near dr_asks dr_letters dr_words dr_askCount sh_lanes sh_sizes sh_cells la_xs la_ys la_heights la_ridgeXs la_ridgeHeights la_way la_blurs la_steps la_places la_ridges la_wayBlur la_wayLength bk_times bk_froms bk_asks bk_words bk_firsts bk_lies bk_held bk_size nu_learned nu_size to_letterMarks to_names to_spelled to_rows to_alike to_near to_asks to_letters to_words to_askCount) A r0) args s 0 0 A) (F0 m 4 ls []) := by
  obtain ⟨hx, hb, hr, hml, hown, hts, hlocks, hK, hA, hE⟩ := id C0
  have hw0 := hts (.fieldLink RX7 47 "WhistledWords$Tongue" "askCount" "I") (by decide +kernel)
  have hw1 := hts (.fieldLink RX7 37 "WhistledWords$Tongue" "asks" "[I") (by decide +kernel)
  have hw2 := hts (.initialized RX8) (by decide +kernel)
  have hw3 := hts (.static yX8_isIn) (by decide +kernel)
  have hnX7 : ∀ w ∈ u_ws RX7 TX7 10, w ∈ wsX7_asksWith := fun _ h => List.mem_cons_of_mem _ (List.mem_append_right _ h)
  intro k
  induction k with
  | zero =>
    intro x2 x3 H locs ls h
    cases h
  | succ k ih =>
    intro x2 x3 H locs ls h hP hD hS hl
    rw [fX7_asksWith_p4] at h
    refine lv_iload_n hx hb dX7_asksWith_4 rfl (lv_at hl 3 rfl) ?_
    refine lv_aload_n hx hb dX7_asksWith_5 rfl (lv_at hl 0 rfl) ?_
    refine gX_told_askCount hx hb hts hnX7 hown hK hP hw0 dX7_asksWith_6 ?_
    refine lv_icmp_ge (tgt := 34) hx hb dX7_asksWith_9 (by decide) (fun c1 => ?_) (fun c1 => ?_)
    · have h := it_use c1 h
      refine lv_iload_n hx hb dX7_asksWith_34 rfl (lv_at hl 2 rfl) ?_
      obtain er := rt1_use h
      exact re_i hx hb hr hlocks hK hP hD hS er dX7_asksWith_35
    · have h := ie_use c1 h
      refine lv_aload_n hx hb dX7_asksWith_12 rfl (lv_at hl 0 rfl) ?_
      refine gX_told_asks hx hb hts hnX7 hown hK hP hw1 dX7_asksWith_13 ?_
      refine lv_iload_n hx hb dX7_asksWith_16 rfl (lv_at hl 3 rfl) ?_
      obtain ⟨hiv2, h⟩ := ar_use h
      refine lX_told_asks hx hb hK hP hiv2 dX7_asksWith_17 ?_
      refine lv_topi (fun v2 ev2 => ?_)
      have h := h v2 ev2
      refine lv_iload_n hx hb dX7_asksWith_18 rfl (lv_at hl 1 rfl) ?_
      obtain ⟨v3, hc, h⟩ := bd1_use h
      refine cn_i (As := [.int v2, .int x1]) (rest := []) ⟨hx, hb, hml, hown, hts⟩ (kX8_isIn l n v2 x1 v3 hc) ⟨va_cnB 2 hts ggX7_asksWith_X8_isIn rfl rfl rfl (hE.1.2.2) hw2 (by decide +kernel) ⟨Nat.le_of_ble_eq_true rfl, Nat.le_of_ble_eq_true rfl⟩, hw3, trivial⟩ hP hS rfl hl.1 rfl (Nat.le_of_ble_eq_true rfl) dX7_asksWith_19 ⟨Nat.zero_le _, Nat.zero_le _⟩ (fun H locs hP hS => ?_)
      refine lv_if_eq (tgt := 28) hx hb dX7_asksWith_22 (by decide) (fun c4 => ?_) (fun c4 => ?_)
      · have h := it_use c4 h
        refine lv_iinc (v := x3 + 1) (lv' := [(3, .int (x3 + 1)), (0, .ref (a 35)), (1, .int x1), (2, .int x2)]) hx hb dX7_asksWith_28 hl (k := 3) rfl rfl (by decide) rfl (fun ls hl => ?_)
        refine lv_goto (tgt := 4) hx hb dX7_asksWith_31 (by decide) ?_
        exact ih x2 (x3 + 1) _ _ ls h hP hD hS (lv_sub hl [1, 2, 3, 0] rfl)
      · have h := ie_use c4 h
        refine lv_iinc (v := x2 + 1) (lv' := [(2, .int (x2 + 1)), (0, .ref (a 35)), (1, .int x1), (3, .int x3)]) hx hb dX7_asksWith_25 hl (k := 2) rfl rfl (by decide) rfl (fun ls hl => ?_)
        refine lv_iinc (v := x3 + 1) (lv' := [(3, .int (x3 + 1)), (2, .int (x2 + 1)), (0, .ref (a 35)), (1, .int x1)]) hx hb dX7_asksWith_28 hl (k := 3) rfl rfl (by decide) rfl (fun ls hl => ?_)
        refine lv_goto (tgt := 4) hx hb dX7_asksWith_31 (by decide) ?_
        exact ih (x2 + 1) (x3 + 1) _ _ ls h hP hD hS (lv_sub hl [2, 3, 1, 0] rfl)
theorem kX7_asksWith_p4 {p : Program} {l : Launch} {e : Env} {s : State} {m : MethodId} {args : Array Value} {below : List Frame} {meth : Method} {c : Code} {A : Nat → Prop} (dC : Nat → ClassId) (dI : Nat → Nat → Nat) (cB cI cJ cZ : ClassId) (a : Nat → Nat) (adK adV : Nat → Nat) (C0 : cxt cX7_asksWith (some .int) 4 RX7 wsX7_asksWith (dC, dI) (tyz cB cI cJ cZ) (E_X adK adV) A p s m args meth c) (n : Nat) (ww_latestFault : Int32) (tp_bytes : Nat → Int32) (tp_size : Int32) (rd_fault : Int32) (rd_faultPlace : Int32) (rd_kind : Int32) (rd_start : Int32) (rd_at : Int32) (rd_number : Int32) (dr_letterMarks : Nat → Int32) (dr_names : Nat → Int64) (dr_spelled : Nat → Int32) (dr_rows : Nat → Int64) (dr_alike : Nat → Int32) (dr_near : Nat → Int32) (dr_asks : Nat → Int32) (dr_letters : Int32) (dr_words : Int32) (dr_askCount : Int32) (sh_lanes : Nat → Int32) (sh_sizes : Nat → Int32) (sh_cells : Nat → Int32) (la_xs : Nat → Int32) (la_ys : Nat → Int32) (la_heights : Nat → Int32) (la_ridgeXs : Nat → Int32) (la_ridgeHeights : Nat → Int32) (la_way : Nat → Int32) (la_blurs : Nat → Int32) (la_steps : Nat → Int32) (la_places : Int32) (la_ridges : Int32) (la_wayBlur : Int32) (la_wayLength : Int32) (bk_times : Nat → Int32) (bk_froms : Nat → Int32) (bk_asks : Nat → Int32) (bk_words : Nat → Int32) (bk_firsts : Nat → Int32) (bk_lies : Nat → Int32) (bk_held : Nat → Int32) (bk_size : Int32) (nu_learned : Nat → Int32) (nu_size : Int32) (to_letterMarks : Nat → Int32) (to_names : Nat → Int64) (to_spelled : Nat → Int32) (to_rows : Nat → Int64) (to_alike : Nat → Int32) (to_near : Nat → Int32) (to_asks : Nat → Int32) (to_letters : Int32) (to_words : Int32) (to_askCount : Int32)  (x1 : Int32) (x2 : Int32) (x3 : Int32) (r0 : Int32)  (k : Nat) (H : Heap) (locs : List Loc) (ls : Array Slot) : fX7_asksWith_p4 n to_asks to_askCount x1 k x2 x3 = some r0 → va_P (dC, dI) vwCl (wX cB cI cJ cZ a (a 35) (a 4) ww_latestFault tp_bytes tp_size rd_fault rd_faultPlace rd_kind rd_start rd_at rd_number dr_letterMarks dr_names dr_spelled dr_rows dr_alike dr_near dr_asks dr_letters dr_words dr_askCount sh_lanes sh_sizes sh_cells la_xs la_ys la_heights la_ridgeXs la_ridgeHeights la_way la_blurs la_steps la_places la_ridges la_wayBlur la_wayLength bk_times bk_froms bk_asks bk_words bk_firsts bk_lies bk_held bk_size nu_learned nu_size to_letterMarks to_names to_spelled to_rows to_alike to_near to_asks to_letters to_words to_askCount) H → va_D A (wX cB cI cJ cZ a (a 35) (a 4) ww_latestFault tp_bytes tp_size rd_fault rd_faultPlace rd_kind rd_start rd_at rd_number dr_letterMarks dr_names dr_spelled dr_rows dr_alike dr_near dr_asks dr_letters dr_words dr_askCount sh_lanes sh_sizes sh_cells la_xs la_ys la_heights la_ridgeXs la_ridgeHeights la_way la_blurs la_steps la_places la_ridges la_wayBlur la_wayLength bk_times bk_froms bk_asks bk_words bk_firsts bk_lies bk_held bk_size nu_learned nu_size to_letterMarks to_names to_spelled to_rows to_alike to_near to_asks to_letters to_words to_askCount) → va_S A s.heap H locs → lv_has ls 4 [(0, .ref (a 35)), (1, .int x1), (2, .int x2), (3, .int x3)] → W p l e { frames := 1, cells := 0, slots := 0, locals := 21 } s m args below meth c H locs 0 0 (MQ below (gI (dC, dI) (tyz cB cI cJ cZ) (wX cB cI cJ cZ a (a 35) (a 4) ww_latestFault tp_bytes tp_size rd_fault rd_faultPlace rd_kind rd_start rd_at rd_number dr_letterMarks dr_names dr_spelled dr_rows dr_alike dr_near dr_asks dr_letters dr_words dr_askCount sh_lanes sh_sizes sh_cells la_xs la_ys la_heights la_ridgeXs la_ridgeHeights la_way la_blurs la_steps la_places la_ridges la_wayBlur la_wayLength bk_times bk_froms bk_asks bk_words bk_firsts bk_lies bk_held bk_size nu_learned nu_size to_letterMarks to_names to_spelled to_rows to_alike to_near to_asks to_letters to_words to_askCount) A r0) args s 0 0 A) (F0 m 4 ls []) :=
  kX7_asksWith_p4_r dC dI cB cI cJ cZ a adK adV C0 n ww_latestFault tp_bytes tp_size rd_fault rd_faultPlace rd_kind rd_start rd_at rd_number dr_letterMarks dr_names dr_spelled dr_rows dr_alike dr_near dr_asks dr_letters dr_words dr_askCount sh_lanes sh_sizes sh_cells la_xs la_ys la_heights la_ridgeXs la_ridgeHeights la_way la_blurs la_steps la_places la_ridges la_wayBlur la_wayLength bk_times bk_froms bk_asks bk_words bk_firsts bk_lies bk_held bk_size nu_learned nu_size to_letterMarks to_names to_spelled to_rows to_alike to_near to_asks to_letters to_words to_askCount x1 r0  k x2 x3 H locs ls
set_option maxHeartbeats 4000000 in
set_option maxRecDepth 100000 in
theorem kX7_asksWith (l : Launch) (n : Nat) (dC : Nat → ClassId) (dI : Nat → Nat → Nat) (cB cI cJ cZ : ClassId) (a : Nat → Nat) (adK adV : Nat → Nat) (sz : Nat) (ww_latestFault : Int32) (tp_bytes : Nat → Int32) (tp_size : Int32) (rd_fault : Int32) (rd_faultPlace : Int32) (rd_kind : Int32) (rd_start : Int32) (rd_at : Int32) (rd_number : Int32) (dr_letterMarks : Nat → Int32) (dr_names : Nat → Int64) (dr_spelled : Nat → Int32) (dr_rows : Nat → Int64) (dr_alike : Nat → Int32) (dr_near : Nat → Int32) (dr_asks : Nat → Int32) (dr_letters : Int32) (dr_words : Int32) (dr_askCount : Int32) (sh_lanes : Nat → Int32) (sh_sizes : Nat → Int32) (sh_cells : Nat → Int32) (la_xs : Nat → Int32) (la_ys : Nat → Int32) (la_heights : Nat → Int32) (la_ridgeXs : Nat → Int32) (la_ridgeHeights : Nat → Int32) (la_way : Nat → Int32) (la_blurs : Nat → Int32) (la_steps : Nat → Int32) (la_places : Int32) (la_ridges : Int32) (la_wayBlur : Int32) (la_wayLength : Int32) (bk_times : Nat → Int32) (bk_froms : Nat → Int32) (bk_asks : Nat → Int32) (bk_words : Nat → Int32) (bk_firsts : Nat → Int32) (bk_lies : Nat → Int32) (bk_held : Nat → Int32) (bk_size : Int32) (nu_learned : Nat → Int32) (nu_size : Int32) (to_letterMarks : Nat → Int32) (to_names : Nat → Int64) (to_spelled : Nat → Int32) (to_rows : Nat → Int64) (to_alike : Nat → Int32) (to_near : Nat → Int32) (to_asks : Nat → Int32) (to_letters : Int32) (to_words : Int32) (to_askCount : Int32) (x1 : Int32) (r0 : Int32) (h : fX7_asksWith n to_asks to_askCount x1 = some r0) : Met l yX7_asksWith wsX7_asksWith ({ frames := 1, cells := 0, slots := 0, locals := 21 }) (gP (dC, dI) (tyz cB cI cJ cZ) (E_X adK adV) (wX cB cI cJ cZ a (a 35) (a 4) ww_latestFault tp_bytes tp_size rd_fault rd_faultPlace rd_kind rd_start rd_at rd_number dr_letterMarks dr_names dr_spelled dr_rows dr_alike dr_near dr_asks dr_letters dr_words dr_askCount sh_lanes sh_sizes sh_cells la_xs la_ys la_heights la_ridgeXs la_ridgeHeights la_way la_blurs la_steps la_places la_ridges la_wayBlur la_wayLength bk_times bk_froms bk_asks bk_words bk_firsts bk_lies bk_held bk_size nu_learned nu_size to_letterMarks to_names to_spelled to_rows to_alike to_near to_asks to_letters to_words to_askCount) sz [.ref (a 35), .int x1]) (gI (dC, dI) (tyz cB cI cJ cZ) (wX cB cI cJ cZ a (a 35) (a 4) ww_latestFault tp_bytes tp_size rd_fault rd_faultPlace rd_kind rd_start rd_at rd_number dr_letterMarks dr_names dr_spelled dr_rows dr_alike dr_near dr_asks dr_letters dr_words dr_askCount sh_lanes sh_sizes sh_cells la_xs la_ys la_heights la_ridgeXs la_ridgeHeights la_way la_blurs la_steps la_places la_ridges la_wayBlur la_wayLength bk_times bk_froms bk_asks bk_words bk_firsts bk_lies bk_held bk_size nu_learned nu_size to_letterMarks to_names to_spelled to_rows to_alike to_near to_asks to_letters to_words to_askCount) (va_A (wX cB cI cJ cZ a (a 35) (a 4) ww_latestFault tp_bytes tp_size rd_fault rd_faultPlace rd_kind rd_start rd_at rd_number dr_letterMarks dr_names dr_spelled dr_rows dr_alike dr_near dr_asks dr_letters dr_words dr_askCount sh_lanes sh_sizes sh_cells la_xs la_ys la_heights la_ridgeXs la_ridgeHeights la_way la_blurs la_steps la_places la_ridges la_wayBlur la_wayLength bk_times bk_froms bk_asks bk_words bk_firsts bk_lies bk_held bk_size nu_learned nu_size to_letterMarks to_names to_spelled to_rows to_alike to_near to_asks to_letters to_words to_askCount) sz) r0) 0 0 (va_A (wX cB cI cJ cZ a (a 35) (a 4) ww_latestFault tp_bytes tp_size rd_fault rd_faultPlace rd_kind rd_start rd_at rd_number dr_letterMarks dr_names dr_spelled dr_rows dr_alike dr_near dr_asks dr_letters dr_words dr_askCount sh_lanes sh_sizes sh_cells la_xs la_ys la_heights la_ridgeXs la_ridgeHeights la_way la_blurs la_steps la_places la_ridges la_wayBlur la_wayLength bk_times bk_froms bk_asks bk_words bk_firsts bk_lies bk_held bk_size nu_learned nu_size to_letterMarks to_names to_spelled to_rows to_alike to_near to_asks to_letters to_words to_askCount) sz) := by
  refine Met.ofW (cc := cX7_asksWith) (maxL := 4) (ret := (some .int)) (by decide) rfl ?_
  intro p e s m args below meth c s₁ B hml hv
  obtain ⟨rfl, hsz, hP, hK, hD0, hE⟩ := hv
  have hx := B.exec
  have hb := B.bytes
  have hr := B.returns
  have hts := atoms_spec (ws := wsX7_asksWith) B.pre
  have hown : s.vm.findClass RX7 = some m.cls := findClass_of_methodNamed B.named
  have hlocks := B.notSynchronized
  subst hsz
  have hD := hD0.self (sz := s.heap.size)
  have hA : ∀ q : Nat, s.heap.size ≤ q → va_A (wX cB cI cJ cZ a (a 35) (a 4) ww_latestFault tp_bytes tp_size rd_fault rd_faultPlace rd_kind rd_start rd_at rd_number dr_letterMarks dr_names dr_spelled dr_rows dr_alike dr_near dr_asks dr_letters dr_words dr_askCount sh_lanes sh_sizes sh_cells la_xs la_ys la_heights la_ridgeXs la_ridgeHeights la_way la_blurs la_steps la_places la_ridges la_wayBlur la_wayLength bk_times bk_froms bk_asks bk_words bk_firsts bk_lies bk_held bk_size nu_learned nu_size to_letterMarks to_names to_spelled to_rows to_alike to_near to_asks to_letters to_words to_askCount) s.heap.size q := fun q h => Or.inr h
  generalize va_A (wX cB cI cJ cZ a (a 35) (a 4) ww_latestFault tp_bytes tp_size rd_fault rd_faultPlace rd_kind rd_start rd_at rd_number dr_letterMarks dr_names dr_spelled dr_rows dr_alike dr_near dr_asks dr_letters dr_words dr_askCount sh_lanes sh_sizes sh_cells la_xs la_ys la_heights la_ridgeXs la_ridgeHeights la_way la_blurs la_steps la_places la_ridges la_wayBlur la_wayLength bk_times bk_froms bk_asks bk_words bk_firsts bk_lies bk_held bk_size nu_learned nu_size to_letterMarks to_names to_spelled to_rows to_alike to_near to_asks to_letters to_words to_askCount) s.heap.size = A at hD hA hE ⊢
  have hS : va_S A s.heap s.heap [] := va_S.rf
  have C0 : cxt cX7_asksWith (some .int) 4 RX7 wsX7_asksWith (dC, dI) (tyz cB cI cJ cZ) (E_X adK adV) A p s m ([.ref (a 35), .int x1] : List Value).toArray meth c := ⟨hx, hb, hr, hml, hown, hts, hlocks, hK, hA, hE⟩
  have hl := lv_entry ([.ref (a 35), .int x1]) (n := 4) (Nat.le_of_ble_eq_true rfl)
  rw [lg_entry_eq]
  generalize (lg_sl ([.ref (a 35), .int x1]) ++ List.replicate (4 - (lg_sl ([.ref (a 35), .int x1])).length) Slot.unset).toArray = ls at hl ⊢
  have hl : lv_has ls 4 [(0, .ref (a 35)), (1, .int x1)] := hl
  unfold fX7_asksWith at h
  refine lv_iconst (v := 0) hx hb dX7_asksWith_0 (by decide) ?_
  refine lv_istore_n (lv' := [(2, .int (0 : Int32)), (0, .ref (a 35)), (1, .int x1)]) hx hb dX7_asksWith_1 rfl hl (by decide) rfl (fun ls hl => ?_)
  refine lv_iconst (v := 0) hx hb dX7_asksWith_2 (by decide) ?_
  refine lv_istore_n (lv' := [(3, .int (0 : Int32)), (2, .int (0 : Int32)), (0, .ref (a 35)), (1, .int x1)]) hx hb dX7_asksWith_3 rfl hl (by decide) rfl (fun ls hl => ?_)
  exact kX7_asksWith_p4 dC dI cB cI cJ cZ a adK adV C0 n ww_latestFault tp_bytes tp_size rd_fault rd_faultPlace rd_kind rd_start rd_at rd_number dr_letterMarks dr_names dr_spelled dr_rows dr_alike dr_near dr_asks dr_letters dr_words dr_askCount sh_lanes sh_sizes sh_cells la_xs la_ys la_heights la_ridgeXs la_ridgeHeights la_way la_blurs la_steps la_places la_ridges la_wayBlur la_wayLength bk_times bk_froms bk_asks bk_words bk_firsts bk_lies bk_held bk_size nu_learned nu_size to_letterMarks to_names to_spelled to_rows to_alike to_near to_asks to_letters to_words to_askCount x1 (0 : Int32) (0 : Int32) r0  n _ _ ls h hP hD hS (lv_sub hl [2, 3, 1, 0] rfl)
set_option maxHeartbeats 4000000 in
set_option maxRecDepth 100000 in
theorem kX8_orBad (l : Launch) (n : Nat) (x0 : Int32) (r0 : Int32) (h : fX8_orBad n  x0 = some r0) : Met l yX8_orBad wsX8_orBad ({ frames := 0, cells := 0, slots := 0, locals := 0 }) (pP [.int x0]) (pI r0) 0 0 no_A := by
  refine Met.ofW (cc := cX8_orBad) (maxL := 1) (ret := (some .int)) (by decide) rfl ?_
  intro p e s m args below meth c s₁ B hml hv
  obtain ⟨rfl, -⟩ := hv
  have hx := B.exec
  have hb := B.bytes
  have hr := B.returns
  have hts := atoms_spec (ws := wsX8_orBad) B.pre
  have hown : s.vm.findClass RX8 = some m.cls := findClass_of_methodNamed B.named
  have hlocks := B.notSynchronized
  have hS : va_S no_A s.heap s.heap [] := va_S.rf
  have C0 : cxp cX8_orBad (some .int) 1 RX8 wsX8_orBad p s m ([.int x0] : List Value).toArray meth c := ⟨hx, hb, hr, hml, hown, hts, hlocks⟩
  have hl := lv_entry ([.int x0]) (n := 1) (Nat.le_of_ble_eq_true rfl)
  rw [lg_entry_eq]
  generalize (lg_sl ([.int x0]) ++ List.replicate (1 - (lg_sl ([.int x0])).length) Slot.unset).toArray = ls at hl ⊢
  have hl : lv_has ls 1 [(0, .int x0)] := hl
  unfold fX8_orBad at h
  refine lv_iload_n hx hb dX8_orBad_0 rfl (lv_at hl 0 rfl) ?_
  refine lv_bipush (v := -4) hx hb dX8_orBad_1 (by decide) ?_
  refine lv_icmp_ne (tgt := 10) hx hb dX8_orBad_3 (by decide) (fun c1 => ?_) (fun c1 => ?_)
  · have h := ie_use c1 h
    refine lv_iload_n hx hb dX8_orBad_10 rfl (lv_at hl 0 rfl) ?_
    obtain er := rt1_use h
    exact rp_i hx hb hr hlocks hS er dX8_orBad_11
  · have h := it_use c1 h
    refine lv_iconst (v := -1) hx hb dX8_orBad_6 (by decide) ?_
    refine lv_goto (tgt := 11) hx hb dX8_orBad_7 (by decide) ?_
    obtain er := rt1_use h
    exact rp_i hx hb hr hlocks hS er dX8_orBad_11
set_option maxHeartbeats 4000000 in
set_option maxRecDepth 100000 in
theorem kX8_word (l : Launch) (n : Nat) (dC : Nat → ClassId) (dI : Nat → Nat → Nat) (cB cI cJ cZ : ClassId) (a : Nat → Nat) (adK adV : Nat → Nat) (sz : Nat) (ww_latestFault : Int32) (tp_bytes : Nat → Int32) (tp_size : Int32) (rd_fault : Int32) (rd_faultPlace : Int32) (rd_kind : Int32) (rd_start : Int32) (rd_at : Int32) (rd_number : Int32) (dr_letterMarks : Nat → Int32) (dr_names : Nat → Int64) (dr_spelled : Nat → Int32) (dr_rows : Nat → Int64) (dr_alike : Nat → Int32) (dr_near : Nat → Int32) (dr_asks : Nat → Int32) (dr_letters : Int32) (dr_words : Int32) (dr_askCount : Int32) (sh_lanes : Nat → Int32) (sh_sizes : Nat → Int32) (sh_cells : Nat → Int32) (la_xs : Nat → Int32) (la_ys : Nat → Int32) (la_heights : Nat → Int32) (la_ridgeXs : Nat → Int32) (la_ridgeHeights : Nat → Int32) (la_way : Nat → Int32) (la_blurs : Nat → Int32) (la_steps : Nat → Int32) (la_places : Int32) (la_ridges : Int32) (la_wayBlur : Int32) (la_wayLength : Int32) (bk_times : Nat → Int32) (bk_froms : Nat → Int32) (bk_asks : Nat → Int32) (bk_words : Nat → Int32) (bk_firsts : Nat → Int32) (bk_lies : Nat → Int32) (bk_held : Nat → Int32) (bk_size : Int32) (nu_learned : Nat → Int32) (nu_size : Int32) (to_letterMarks : Nat → Int32) (to_names : Nat → Int64) (to_spelled : Nat → Int32) (to_rows : Nat → Int64) (to_alike : Nat → Int32) (to_near : Nat → Int32) (to_asks : Nat → Int32) (to_letters : Int32) (to_words : Int32) (to_askCount : Int32) (x1 : Int32) (x2 : Int32) (r0 : Int32) (h : fX8_word n to_spelled to_rows to_asks to_words to_askCount x1 x2 = some r0) : Met l yX8_word wsX8_word ({ frames := 3, cells := 0, slots := 0, locals := 69 }) (gP (dC, dI) (tyz cB cI cJ cZ) (E_X adK adV) (wX cB cI cJ cZ a (a 35) (a 4) ww_latestFault tp_bytes tp_size rd_fault rd_faultPlace rd_kind rd_start rd_at rd_number dr_letterMarks dr_names dr_spelled dr_rows dr_alike dr_near dr_asks dr_letters dr_words dr_askCount sh_lanes sh_sizes sh_cells la_xs la_ys la_heights la_ridgeXs la_ridgeHeights la_way la_blurs la_steps la_places la_ridges la_wayBlur la_wayLength bk_times bk_froms bk_asks bk_words bk_firsts bk_lies bk_held bk_size nu_learned nu_size to_letterMarks to_names to_spelled to_rows to_alike to_near to_asks to_letters to_words to_askCount) sz [.ref (a 0), .int x1, .int x2]) (gI (dC, dI) (tyz cB cI cJ cZ) (wX cB cI cJ cZ a (a 35) (a 4) ww_latestFault tp_bytes tp_size rd_fault rd_faultPlace rd_kind rd_start rd_at rd_number dr_letterMarks dr_names dr_spelled dr_rows dr_alike dr_near dr_asks dr_letters dr_words dr_askCount sh_lanes sh_sizes sh_cells la_xs la_ys la_heights la_ridgeXs la_ridgeHeights la_way la_blurs la_steps la_places la_ridges la_wayBlur la_wayLength bk_times bk_froms bk_asks bk_words bk_firsts bk_lies bk_held bk_size nu_learned nu_size to_letterMarks to_names to_spelled to_rows to_alike to_near to_asks to_letters to_words to_askCount) (va_A (wX cB cI cJ cZ a (a 35) (a 4) ww_latestFault tp_bytes tp_size rd_fault rd_faultPlace rd_kind rd_start rd_at rd_number dr_letterMarks dr_names dr_spelled dr_rows dr_alike dr_near dr_asks dr_letters dr_words dr_askCount sh_lanes sh_sizes sh_cells la_xs la_ys la_heights la_ridgeXs la_ridgeHeights la_way la_blurs la_steps la_places la_ridges la_wayBlur la_wayLength bk_times bk_froms bk_asks bk_words bk_firsts bk_lies bk_held bk_size nu_learned nu_size to_letterMarks to_names to_spelled to_rows to_alike to_near to_asks to_letters to_words to_askCount) sz) r0) 0 0 (va_A (wX cB cI cJ cZ a (a 35) (a 4) ww_latestFault tp_bytes tp_size rd_fault rd_faultPlace rd_kind rd_start rd_at rd_number dr_letterMarks dr_names dr_spelled dr_rows dr_alike dr_near dr_asks dr_letters dr_words dr_askCount sh_lanes sh_sizes sh_cells la_xs la_ys la_heights la_ridgeXs la_ridgeHeights la_way la_blurs la_steps la_places la_ridges la_wayBlur la_wayLength bk_times bk_froms bk_asks bk_words bk_firsts bk_lies bk_held bk_size nu_learned nu_size to_letterMarks to_names to_spelled to_rows to_alike to_near to_asks to_letters to_words to_askCount) sz) := by
  refine Met.ofW (cc := cX8_word) (maxL := 3) (ret := (some .int)) (by decide) rfl ?_
  intro p e s m args below meth c s₁ B hml hv
  obtain ⟨rfl, hsz, hP, hK, hD0, hE⟩ := hv
  have hx := B.exec
  have hb := B.bytes
  have hr := B.returns
  have hts := atoms_spec (ws := wsX8_word) B.pre
  have hown : s.vm.findClass RX8 = some m.cls := findClass_of_methodNamed B.named
  have hlocks := B.notSynchronized
  subst hsz
  have hD := hD0.self (sz := s.heap.size)
  have hA : ∀ q : Nat, s.heap.size ≤ q → va_A (wX cB cI cJ cZ a (a 35) (a 4) ww_latestFault tp_bytes tp_size rd_fault rd_faultPlace rd_kind rd_start rd_at rd_number dr_letterMarks dr_names dr_spelled dr_rows dr_alike dr_near dr_asks dr_letters dr_words dr_askCount sh_lanes sh_sizes sh_cells la_xs la_ys la_heights la_ridgeXs la_ridgeHeights la_way la_blurs la_steps la_places la_ridges la_wayBlur la_wayLength bk_times bk_froms bk_asks bk_words bk_firsts bk_lies bk_held bk_size nu_learned nu_size to_letterMarks to_names to_spelled to_rows to_alike to_near to_asks to_letters to_words to_askCount) s.heap.size q := fun q h => Or.inr h
  generalize va_A (wX cB cI cJ cZ a (a 35) (a 4) ww_latestFault tp_bytes tp_size rd_fault rd_faultPlace rd_kind rd_start rd_at rd_number dr_letterMarks dr_names dr_spelled dr_rows dr_alike dr_near dr_asks dr_letters dr_words dr_askCount sh_lanes sh_sizes sh_cells la_xs la_ys la_heights la_ridgeXs la_ridgeHeights la_way la_blurs la_steps la_places la_ridges la_wayBlur la_wayLength bk_times bk_froms bk_asks bk_words bk_firsts bk_lies bk_held bk_size nu_learned nu_size to_letterMarks to_names to_spelled to_rows to_alike to_near to_asks to_letters to_words to_askCount) s.heap.size = A at hD hA hE ⊢
  have hS : va_S A s.heap s.heap [] := va_S.rf
  have C0 : cxt cX8_word (some .int) 3 RX8 wsX8_word (dC, dI) (tyz cB cI cJ cZ) (E_X adK adV) A p s m ([.ref (a 0), .int x1, .int x2] : List Value).toArray meth c := ⟨hx, hb, hr, hml, hown, hts, hlocks, hK, hA, hE⟩
  have hl := lv_entry ([.ref (a 0), .int x1, .int x2]) (n := 3) (Nat.le_of_ble_eq_true rfl)
  rw [lg_entry_eq]
  generalize (lg_sl ([.ref (a 0), .int x1, .int x2]) ++ List.replicate (3 - (lg_sl ([.ref (a 0), .int x1, .int x2])).length) Slot.unset).toArray = ls at hl ⊢
  have hl : lv_has ls 3 [(0, .ref (a 0)), (1, .int x1), (2, .int x2)] := hl
  have hw0 := hts (.fieldLink RX8 60 "WhistledWords" "told" "LWhistledWords$Tongue;") (by decide +kernel)
  have hw1 := hts (.fieldLink RX8 100 "WhistledWords$Tongue" "spelled" "[I") (by decide +kernel)
  have hw2 := hts (.fieldLink RX8 104 "WhistledWords$Tongue" "rows" "[J") (by decide +kernel)
  have hnX8 : ∀ w ∈ u_ws RX8 TX8 8, w ∈ wsX8_word := fun _ h => List.mem_cons_of_mem _ (List.mem_append_left _ (List.mem_append_right _ h))
  have hnX7 : ∀ w ∈ u_ws RX7 TX7 10, w ∈ wsX8_word := fun _ h => List.mem_cons_of_mem _ (List.mem_append_right _ h)
  unfold fX8_word at h
  refine lv_aload_n hx hb dX8_word_0 rfl (lv_at hl 0 rfl) ?_
  refine gX_ww_told hx hb hts hnX8 hown hK hP hw0 dX8_word_1 ?_
  refine lv_iload_n hx hb dX8_word_4 rfl (lv_at hl 1 rfl) ?_
  obtain ⟨v1, hc, h⟩ := bd1_use h
  refine cv_i (As := [.int x1]) (rest := []) ⟨hx, hb, hml, hown, hts⟩ (kX7_isWord l n dC dI cB cI cJ cZ a adK adV _ ww_latestFault tp_bytes tp_size rd_fault rd_faultPlace rd_kind rd_start rd_at rd_number dr_letterMarks dr_names dr_spelled dr_rows dr_alike dr_near dr_asks dr_letters dr_words dr_askCount sh_lanes sh_sizes sh_cells la_xs la_ys la_heights la_ridgeXs la_ridgeHeights la_way la_blurs la_steps la_places la_ridges la_wayBlur la_wayLength bk_times bk_froms bk_asks bk_words bk_firsts bk_lies bk_held bk_size nu_learned nu_size to_letterMarks to_names to_spelled to_rows to_alike to_near to_asks to_letters to_words to_askCount x1 v1 hc) (cwV 1 hts gX8_word_X7_isWord rfl rfl rfl (by decide +kernel) ⟨Nat.le_of_ble_eq_true rfl, Nat.le_of_ble_eq_true rfl⟩) EB_X hE hK hP hD hS hA 35 (ci := 6) rfl rfl rfl rfl hl.1 rfl (Nat.le_of_ble_eq_true rfl) dX8_word_5 ⟨Nat.zero_le _, Nat.zero_le _⟩ (fun H locs hP hD hS => ?_)
  refine lv_if_ne (tgt := 13) hx hb dX8_word_8 (by decide) (fun c2 => ?_) (fun c2 => ?_)
  · have h := ie_use c2 h
    refine lv_iload_n hx hb dX8_word_13 rfl (lv_at hl 2 rfl) ?_
    by_cases c3 : x2 = 0
    · have h := it_use c3 h
      refine lv_tableIn (tgt := 44) hx hb dX8_word_14 (by rw [c3]; decide) (by rw [c3]; decide) (by rw [c3]; rfl) (by decide) ?_
      refine lv_aload_n hx hb dX8_word_44 rfl (lv_at hl 0 rfl) ?_
      refine gX_ww_told hx hb hts hnX8 hown hK hP hw0 dX8_word_45 ?_
      refine gX_told_spelled hx hb hts hnX7 hown hK hP hw1 dX8_word_48 ?_
      refine lv_iload_n hx hb dX8_word_51 rfl (lv_at hl 1 rfl) ?_
      obtain ⟨hiv4, h⟩ := ar_use h
      refine lX_told_spelled hx hb hK hP hiv4 dX8_word_52 ?_
      refine lv_topi (fun v4 ev4 => ?_)
      have h := h v4 ev4
      obtain er := rt1_use h
      exact re_i hx hb hr hlocks hK hP hD hS er dX8_word_53
    · have h := ie_use c3 h
      have nc3 := sw_ne c3
      by_cases c5 : x2 = 1
      · have h := it_use c5 h
        refine lv_tableIn (tgt := 54) hx hb dX8_word_14 (by rw [c5]; decide) (by rw [c5]; decide) (by rw [c5]; rfl) (by decide) ?_
        refine lv_aload_n hx hb dX8_word_54 rfl (lv_at hl 0 rfl) ?_
        refine gX_ww_told hx hb hts hnX8 hown hK hP hw0 dX8_word_55 ?_
        refine gX_told_rows hx hb hts hnX7 hown hK hP hw2 dX8_word_58 ?_
        refine lv_iload_n hx hb dX8_word_61 rfl (lv_at hl 1 rfl) ?_
        obtain ⟨hiv6, h⟩ := ar_use h
        refine lX_told_rows hx hb hK hP hiv6 dX8_word_62 ?_
        refine lv_topl (fun v6 ev6 => ?_)
        have h := h v6 ev6
        obtain ⟨v7, hc, h⟩ := bd1_use h
        refine cs_i (As := [.long v6]) (rest := []) ⟨hx, hb, hml, hown, hts⟩ (kX3_length l n v6 v7 hc) (va_cwS 1 hts gX8_word_X3_length rfl rfl rfl (by decide +kernel) ⟨Nat.le_of_ble_eq_true rfl, Nat.le_of_ble_eq_true rfl⟩) hP hS rfl hl.1 rfl (Nat.le_of_ble_eq_true rfl) dX8_word_63 ⟨Nat.zero_le _, Nat.zero_le _⟩ (fun H locs hP hS => ?_)
        obtain er := rt1_use h
        exact re_i hx hb hr hlocks hK hP hD hS er dX8_word_66
      · have h := ie_use c5 h
        have nc5 := sw_ne c5
        by_cases c8 : x2 = 2
        · have h := it_use c8 h
          refine lv_tableIn (tgt := 67) hx hb dX8_word_14 (by rw [c8]; decide) (by rw [c8]; decide) (by rw [c8]; rfl) (by decide) ?_
          refine lv_aload_n hx hb dX8_word_67 rfl (lv_at hl 0 rfl) ?_
          refine gX_ww_told hx hb hts hnX8 hown hK hP hw0 dX8_word_68 ?_
          refine gX_told_rows hx hb hts hnX7 hown hK hP hw2 dX8_word_71 ?_
          refine lv_iload_n hx hb dX8_word_74 rfl (lv_at hl 1 rfl) ?_
          obtain ⟨hiv9, h⟩ := ar_use h
          refine lX_told_rows hx hb hK hP hiv9 dX8_word_75 ?_
          refine lv_topl (fun v9 ev9 => ?_)
          have h := h v9 ev9
          obtain ⟨v10, hc, h⟩ := bd1_use h
          refine cs_i (As := [.long v9]) (rest := []) ⟨hx, hb, hml, hown, hts⟩ (kX3_heights l n v9 v10 hc) (va_cwS 1 hts gX8_word_X3_heights rfl rfl rfl (by decide +kernel) ⟨Nat.le_of_ble_eq_true rfl, Nat.le_of_ble_eq_true rfl⟩) hP hS rfl hl.1 rfl (Nat.le_of_ble_eq_true rfl) dX8_word_76 ⟨Nat.zero_le _, Nat.zero_le _⟩ (fun H locs hP hS => ?_)
          obtain er := rt1_use h
          exact re_i hx hb hr hlocks hK hP hD hS er dX8_word_79
        · have h := ie_use c8 h
          have nc8 := sw_ne c8
          by_cases c11 : x2 = 3
          · have h := it_use c11 h
            refine lv_tableIn (tgt := 80) hx hb dX8_word_14 (by rw [c11]; decide) (by rw [c11]; decide) (by rw [c11]; rfl) (by decide) ?_
            refine lv_aload_n hx hb dX8_word_80 rfl (lv_at hl 0 rfl) ?_
            refine gX_ww_told hx hb hts hnX8 hown hK hP hw0 dX8_word_81 ?_
            refine lv_iload_n hx hb dX8_word_84 rfl (lv_at hl 1 rfl) ?_
            obtain ⟨v12, hc, h⟩ := bd1_use h
            refine cv_i (As := [.int x1]) (rest := []) ⟨hx, hb, hml, hown, hts⟩ (kX7_asksWith l n dC dI cB cI cJ cZ a adK adV _ ww_latestFault tp_bytes tp_size rd_fault rd_faultPlace rd_kind rd_start rd_at rd_number dr_letterMarks dr_names dr_spelled dr_rows dr_alike dr_near dr_asks dr_letters dr_words dr_askCount sh_lanes sh_sizes sh_cells la_xs la_ys la_heights la_ridgeXs la_ridgeHeights la_way la_blurs la_steps la_places la_ridges la_wayBlur la_wayLength bk_times bk_froms bk_asks bk_words bk_firsts bk_lies bk_held bk_size nu_learned nu_size to_letterMarks to_names to_spelled to_rows to_alike to_near to_asks to_letters to_words to_askCount x1 v12 hc) (cwV 1 hts gX8_word_X7_asksWith rfl rfl rfl (by decide +kernel) ⟨Nat.le_of_ble_eq_true rfl, Nat.le_of_ble_eq_true rfl⟩) EB_X hE hK hP hD hS hA 35 (ci := 6) rfl rfl rfl rfl hl.1 rfl (Nat.le_of_ble_eq_true rfl) dX8_word_85 ⟨Nat.zero_le _, Nat.zero_le _⟩ (fun H locs hP hD hS => ?_)
            obtain er := rt1_use h
            exact re_i hx hb hr hlocks hK hP hD hS er dX8_word_88
          · have h := ie_use c11 h
            have nc11 := sw_ne c11
            rw [show (0 : Int32).toInt = 0 from by decide] at nc3
            rw [show (1 : Int32).toInt = 1 from by decide] at nc5
            rw [show (2 : Int32).toInt = 2 from by decide] at nc8
            rw [show (3 : Int32).toInt = 3 from by decide] at nc11
            refine lv_tableOut (tgt := 89) hx hb dX8_word_14 (by omega) (by decide) ?_
            refine lv_iload_n hx hb dX8_word_89 rfl (lv_at hl 2 rfl) ?_
            refine lv_bipush (v := 10) hx hb dX8_word_90 (by decide) ?_
            refine lv_icmp_ge (tgt := 99) hx hb dX8_word_92 (by decide) (fun c13 => ?_) (fun c13 => ?_)
            · have h := it_use c13 h
              refine lv_aload_n hx hb dX8_word_99 rfl (lv_at hl 0 rfl) ?_
              refine gX_ww_told hx hb hts hnX8 hown hK hP hw0 dX8_word_100 ?_
              refine gX_told_rows hx hb hts hnX7 hown hK hP hw2 dX8_word_103 ?_
              refine lv_iload_n hx hb dX8_word_106 rfl (lv_at hl 1 rfl) ?_
              obtain ⟨hiv14, h⟩ := ar_use h
              refine lX_told_rows hx hb hK hP hiv14 dX8_word_107 ?_
              refine lv_topl (fun v14 ev14 => ?_)
              have h := h v14 ev14
              refine lv_iload_n hx hb dX8_word_108 rfl (lv_at hl 2 rfl) ?_
              refine lv_bipush (v := 10) hx hb dX8_word_109 (by decide) ?_
              refine lv_isub hx hb dX8_word_111 ?_
              obtain ⟨v15, hc, h⟩ := bd1_use h
              refine cs_i (As := [.long v14, .int (x2 - (10 : Int32))]) (rest := []) ⟨hx, hb, hml, hown, hts⟩ (kX3_markAt l n v14 (x2 - (10 : Int32)) v15 hc) (va_cwS 2 hts gX8_word_X3_markAt rfl rfl rfl (by decide +kernel) ⟨Nat.le_of_ble_eq_true rfl, Nat.le_of_ble_eq_true rfl⟩) hP hS rfl hl.1 rfl (Nat.le_of_ble_eq_true rfl) dX8_word_112 ⟨Nat.zero_le _, Nat.zero_le _⟩ (fun H locs hP hS => ?_)
              obtain ⟨v16, hc, h⟩ := bd1_use h
              refine cs_i (As := [.int v15]) (rest := []) ⟨hx, hb, hml, hown, hts⟩ (kX8_orBad l n v15 v16 hc) (va_cwS 1 hts gX8_word_X8_orBad rfl rfl rfl (by decide +kernel) ⟨Nat.le_of_ble_eq_true rfl, Nat.le_of_ble_eq_true rfl⟩) hP hS rfl hl.1 rfl (Nat.le_of_ble_eq_true rfl) dX8_word_115 ⟨Nat.zero_le _, Nat.zero_le _⟩ (fun H locs hP hS => ?_)
              obtain er := rt1_use h
              exact re_i hx hb hr hlocks hK hP hD hS er dX8_word_118
            · have h := ie_use c13 h
              refine lv_iconst (v := -1) hx hb dX8_word_95 (by decide) ?_
              refine lv_goto (tgt := 118) hx hb dX8_word_96 (by decide) ?_
              obtain er := rt1_use h
              exact re_i hx hb hr hlocks hK hP hD hS er dX8_word_118
  · have h := it_use c2 h
    refine lv_iconst (v := -1) hx hb dX8_word_11 (by decide) ?_
    obtain er := rt1_use h
    exact re_i hx hb hr hlocks hK hP hD hS er dX8_word_12
set_option maxHeartbeats 4000000 in
set_option maxRecDepth 100000 in
theorem kX7_isAsk (l : Launch) (n : Nat) (dC : Nat → ClassId) (dI : Nat → Nat → Nat) (cB cI cJ cZ : ClassId) (a : Nat → Nat) (adK adV : Nat → Nat) (sz : Nat) (ww_latestFault : Int32) (tp_bytes : Nat → Int32) (tp_size : Int32) (rd_fault : Int32) (rd_faultPlace : Int32) (rd_kind : Int32) (rd_start : Int32) (rd_at : Int32) (rd_number : Int32) (dr_letterMarks : Nat → Int32) (dr_names : Nat → Int64) (dr_spelled : Nat → Int32) (dr_rows : Nat → Int64) (dr_alike : Nat → Int32) (dr_near : Nat → Int32) (dr_asks : Nat → Int32) (dr_letters : Int32) (dr_words : Int32) (dr_askCount : Int32) (sh_lanes : Nat → Int32) (sh_sizes : Nat → Int32) (sh_cells : Nat → Int32) (la_xs : Nat → Int32) (la_ys : Nat → Int32) (la_heights : Nat → Int32) (la_ridgeXs : Nat → Int32) (la_ridgeHeights : Nat → Int32) (la_way : Nat → Int32) (la_blurs : Nat → Int32) (la_steps : Nat → Int32) (la_places : Int32) (la_ridges : Int32) (la_wayBlur : Int32) (la_wayLength : Int32) (bk_times : Nat → Int32) (bk_froms : Nat → Int32) (bk_asks : Nat → Int32) (bk_words : Nat → Int32) (bk_firsts : Nat → Int32) (bk_lies : Nat → Int32) (bk_held : Nat → Int32) (bk_size : Int32) (nu_learned : Nat → Int32) (nu_size : Int32) (to_letterMarks : Nat → Int32) (to_names : Nat → Int64) (to_spelled : Nat → Int32) (to_rows : Nat → Int64) (to_alike : Nat → Int32) (to_near : Nat → Int32) (to_asks : Nat → Int32) (to_letters : Int32) (to_words : Int32) (to_askCount : Int32) (x1 : Int32) (r0 : Int32) (h : fX7_isAsk n to_askCount x1 = some r0) : Met l yX7_isAsk wsX7_isAsk ({ frames := 0, cells := 0, slots := 0, locals := 0 }) (gP (dC, dI) (tyz cB cI cJ cZ) (E_X adK adV) (wX cB cI cJ cZ a (a 35) (a 4) ww_latestFault tp_bytes tp_size rd_fault rd_faultPlace rd_kind rd_start rd_at rd_number dr_letterMarks dr_names dr_spelled dr_rows dr_alike dr_near dr_asks dr_letters dr_words dr_askCount sh_lanes sh_sizes sh_cells la_xs la_ys la_heights la_ridgeXs la_ridgeHeights la_way la_blurs la_steps la_places la_ridges la_wayBlur la_wayLength bk_times bk_froms bk_asks bk_words bk_firsts bk_lies bk_held bk_size nu_learned nu_size to_letterMarks to_names to_spelled to_rows to_alike to_near to_asks to_letters to_words to_askCount) sz [.ref (a 35), .int x1]) (gI (dC, dI) (tyz cB cI cJ cZ) (wX cB cI cJ cZ a (a 35) (a 4) ww_latestFault tp_bytes tp_size rd_fault rd_faultPlace rd_kind rd_start rd_at rd_number dr_letterMarks dr_names dr_spelled dr_rows dr_alike dr_near dr_asks dr_letters dr_words dr_askCount sh_lanes sh_sizes sh_cells la_xs la_ys la_heights la_ridgeXs la_ridgeHeights la_way la_blurs la_steps la_places la_ridges la_wayBlur la_wayLength bk_times bk_froms bk_asks bk_words bk_firsts bk_lies bk_held bk_size nu_learned nu_size to_letterMarks to_names to_spelled to_rows to_alike to_near to_asks to_letters to_words to_askCount) (va_A (wX cB cI cJ cZ a (a 35) (a 4) ww_latestFault tp_bytes tp_size rd_fault rd_faultPlace rd_kind rd_start rd_at rd_number dr_letterMarks dr_names dr_spelled dr_rows dr_alike dr_near dr_asks dr_letters dr_words dr_askCount sh_lanes sh_sizes sh_cells la_xs la_ys la_heights la_ridgeXs la_ridgeHeights la_way la_blurs la_steps la_places la_ridges la_wayBlur la_wayLength bk_times bk_froms bk_asks bk_words bk_firsts bk_lies bk_held bk_size nu_learned nu_size to_letterMarks to_names to_spelled to_rows to_alike to_near to_asks to_letters to_words to_askCount) sz) r0) 0 0 (va_A (wX cB cI cJ cZ a (a 35) (a 4) ww_latestFault tp_bytes tp_size rd_fault rd_faultPlace rd_kind rd_start rd_at rd_number dr_letterMarks dr_names dr_spelled dr_rows dr_alike dr_near dr_asks dr_letters dr_words dr_askCount sh_lanes sh_sizes sh_cells la_xs la_ys la_heights la_ridgeXs la_ridgeHeights la_way la_blurs la_steps la_places la_ridges la_wayBlur la_wayLength bk_times bk_froms bk_asks bk_words bk_firsts bk_lies bk_held bk_size nu_learned nu_size to_letterMarks to_names to_spelled to_rows to_alike to_near to_asks to_letters to_words to_askCount) sz) := by
  refine Met.ofW (cc := cX7_isAsk) (maxL := 2) (ret := (some .boolean)) (by decide) rfl ?_
  intro p e s m args below meth c s₁ B hml hv
  obtain ⟨rfl, hsz, hP, hK, hD0, hE⟩ := hv
  have hx := B.exec
  have hb := B.bytes
  have hr := B.returns
  have hts := atoms_spec (ws := wsX7_isAsk) B.pre
  have hown : s.vm.findClass RX7 = some m.cls := findClass_of_methodNamed B.named
  have hlocks := B.notSynchronized
  subst hsz
  have hD := hD0.self (sz := s.heap.size)
  have hA : ∀ q : Nat, s.heap.size ≤ q → va_A (wX cB cI cJ cZ a (a 35) (a 4) ww_latestFault tp_bytes tp_size rd_fault rd_faultPlace rd_kind rd_start rd_at rd_number dr_letterMarks dr_names dr_spelled dr_rows dr_alike dr_near dr_asks dr_letters dr_words dr_askCount sh_lanes sh_sizes sh_cells la_xs la_ys la_heights la_ridgeXs la_ridgeHeights la_way la_blurs la_steps la_places la_ridges la_wayBlur la_wayLength bk_times bk_froms bk_asks bk_words bk_firsts bk_lies bk_held bk_size nu_learned nu_size to_letterMarks to_names to_spelled to_rows to_alike to_near to_asks to_letters to_words to_askCount) s.heap.size q := fun q h => Or.inr h
  generalize va_A (wX cB cI cJ cZ a (a 35) (a 4) ww_latestFault tp_bytes tp_size rd_fault rd_faultPlace rd_kind rd_start rd_at rd_number dr_letterMarks dr_names dr_spelled dr_rows dr_alike dr_near dr_asks dr_letters dr_words dr_askCount sh_lanes sh_sizes sh_cells la_xs la_ys la_heights la_ridgeXs la_ridgeHeights la_way la_blurs la_steps la_places la_ridges la_wayBlur la_wayLength bk_times bk_froms bk_asks bk_words bk_firsts bk_lies bk_held bk_size nu_learned nu_size to_letterMarks to_names to_spelled to_rows to_alike to_near to_asks to_letters to_words to_askCount) s.heap.size = A at hD hA hE ⊢
  have hS : va_S A s.heap s.heap [] := va_S.rf
  have C0 : cxt cX7_isAsk (some .boolean) 2 RX7 wsX7_isAsk (dC, dI) (tyz cB cI cJ cZ) (E_X adK adV) A p s m ([.ref (a 35), .int x1] : List Value).toArray meth c := ⟨hx, hb, hr, hml, hown, hts, hlocks, hK, hA, hE⟩
  have hl := lv_entry ([.ref (a 35), .int x1]) (n := 2) (Nat.le_of_ble_eq_true rfl)
  rw [lg_entry_eq]
  generalize (lg_sl ([.ref (a 35), .int x1]) ++ List.replicate (2 - (lg_sl ([.ref (a 35), .int x1])).length) Slot.unset).toArray = ls at hl ⊢
  have hl : lv_has ls 2 [(0, .ref (a 35)), (1, .int x1)] := hl
  have hw0 := hts (.fieldLink RX7 47 "WhistledWords$Tongue" "askCount" "I") (by decide +kernel)
  have hnX7 : ∀ w ∈ u_ws RX7 TX7 10, w ∈ wsX7_isAsk := fun _ h => List.mem_cons_of_mem _ (List.mem_append_right _ h)
  unfold fX7_isAsk at h
  refine lv_iload_n hx hb dX7_isAsk_0 rfl (lv_at hl 1 rfl) ?_
  refine lv_if_lt (tgt := 16) hx hb dX7_isAsk_1 (by decide) (fun c1 => ?_) (fun c1 => ?_)
  · have h := it_use c1 h
    refine lv_iconst (v := 0) hx hb dX7_isAsk_16 (by decide) ?_
    obtain er := rt1_use h
    exact re_z hx hb hr hlocks hK hP hD hS (Or.inl rfl) er dX7_isAsk_17
  · have h := ie_use c1 h
    refine lv_iload_n hx hb dX7_isAsk_4 rfl (lv_at hl 1 rfl) ?_
    refine lv_aload_n hx hb dX7_isAsk_5 rfl (lv_at hl 0 rfl) ?_
    refine gX_told_askCount hx hb hts hnX7 hown hK hP hw0 dX7_isAsk_6 ?_
    refine lv_icmp_ge (tgt := 16) hx hb dX7_isAsk_9 (by decide) (fun c2 => ?_) (fun c2 => ?_)
    · have h := it_use c2 h
      refine lv_iconst (v := 0) hx hb dX7_isAsk_16 (by decide) ?_
      obtain er := rt1_use h
      exact re_z hx hb hr hlocks hK hP hD hS (Or.inl rfl) er dX7_isAsk_17
    · have h := ie_use c2 h
      refine lv_iconst (v := 1) hx hb dX7_isAsk_12 (by decide) ?_
      refine lv_goto (tgt := 17) hx hb dX7_isAsk_13 (by decide) ?_
      obtain er := rt1_use h
      exact re_z hx hb hr hlocks hK hP hD hS (Or.inr rfl) er dX7_isAsk_17
set_option maxHeartbeats 4000000 in
set_option maxRecDepth 100000 in
theorem kJ6_bitCount_0f7a4 (l : Launch) (n : Nat) (x0 : Int32) (r0 : Int32) (h : fJ6_bitCount_0f7a4 n  x0 = some r0) : Met l yJ6_bitCount_0f7a4 wsJ6_bitCount_0f7a4 ({ frames := 0, cells := 0, slots := 0, locals := 0 }) (pP [.int x0]) (pI r0) 0 0 no_A := by
  refine Met.ofW (cc := cJ6_bitCount_0f7a4) (maxL := 1) (ret := (some .int)) (by decide) rfl ?_
  intro p e s m args below meth c s₁ B hml hv
  obtain ⟨rfl, -⟩ := hv
  have hx := B.exec
  have hb := B.bytes
  have hr := B.returns
  have hts := atoms_spec (ws := wsJ6_bitCount_0f7a4) B.pre
  have hown : s.vm.findClass RJ6 = some m.cls := findClass_of_methodNamed B.named
  have hlocks := B.notSynchronized
  have hS : va_S no_A s.heap s.heap [] := va_S.rf
  have C0 : cxp cJ6_bitCount_0f7a4 (some .int) 1 RJ6 wsJ6_bitCount_0f7a4 p s m ([.int x0] : List Value).toArray meth c := ⟨hx, hb, hr, hml, hown, hts, hlocks⟩
  have hl := lv_entry ([.int x0]) (n := 1) (Nat.le_of_ble_eq_true rfl)
  rw [lg_entry_eq]
  generalize (lg_sl ([.int x0]) ++ List.replicate (1 - (lg_sl ([.int x0])).length) Slot.unset).toArray = ls at hl ⊢
  have hl : lv_has ls 1 [(0, .int x0)] := hl
  have hw0 := hts (.constant RJ6 265 (1431655765)) (by decide +kernel)
  have hw1 := hts (.constant RJ6 266 (858993459)) (by decide +kernel)
  have hw2 := hts (.constant RJ6 267 (252645135)) (by decide +kernel)
  unfold fJ6_bitCount_0f7a4 at h
  refine lv_iload_n hx hb dJ6_bitCount_0f7a4_0 rfl (lv_at hl 0 rfl) ?_
  refine lv_iload_n hx hb dJ6_bitCount_0f7a4_1 rfl (lv_at hl 0 rfl) ?_
  refine lv_iconst (v := 1) hx hb dJ6_bitCount_0f7a4_2 (by decide) ?_
  refine lv_iushr hx hb dJ6_bitCount_0f7a4_3 rfl ?_
  refine lv_ldcw hx hb hown hw0 dJ6_bitCount_0f7a4_4 ?_
  refine lv_iand hx hb dJ6_bitCount_0f7a4_7 ?_
  refine lv_isub hx hb dJ6_bitCount_0f7a4_8 ?_
  refine lv_topi (fun v1 ev1 => ?_)
  have h := nm_use ev1 h
  refine lv_istore_n (lv' := [(0, .int v1)]) hx hb dJ6_bitCount_0f7a4_9 rfl hl (by decide) rfl (fun ls hl => ?_)
  refine lv_iload_n hx hb dJ6_bitCount_0f7a4_10 rfl (lv_at hl 0 rfl) ?_
  refine lv_ldcw hx hb hown hw1 dJ6_bitCount_0f7a4_11 ?_
  refine lv_iand hx hb dJ6_bitCount_0f7a4_14 ?_
  refine lv_iload_n hx hb dJ6_bitCount_0f7a4_15 rfl (lv_at hl 0 rfl) ?_
  refine lv_iconst (v := 2) hx hb dJ6_bitCount_0f7a4_16 (by decide) ?_
  refine lv_iushr hx hb dJ6_bitCount_0f7a4_17 rfl ?_
  refine lv_ldcw hx hb hown hw1 dJ6_bitCount_0f7a4_18 ?_
  refine lv_iand hx hb dJ6_bitCount_0f7a4_21 ?_
  refine lv_iadd hx hb dJ6_bitCount_0f7a4_22 ?_
  refine lv_topi (fun v2 ev2 => ?_)
  have h := nm_use ev2 h
  refine lv_istore_n (lv' := [(0, .int v2)]) hx hb dJ6_bitCount_0f7a4_23 rfl hl (by decide) rfl (fun ls hl => ?_)
  refine lv_iload_n hx hb dJ6_bitCount_0f7a4_24 rfl (lv_at hl 0 rfl) ?_
  refine lv_iload_n hx hb dJ6_bitCount_0f7a4_25 rfl (lv_at hl 0 rfl) ?_
  refine lv_iconst (v := 4) hx hb dJ6_bitCount_0f7a4_26 (by decide) ?_
  refine lv_iushr hx hb dJ6_bitCount_0f7a4_27 rfl ?_
  refine lv_iadd hx hb dJ6_bitCount_0f7a4_28 ?_
  refine lv_ldcw hx hb hown hw2 dJ6_bitCount_0f7a4_29 ?_
  refine lv_iand hx hb dJ6_bitCount_0f7a4_32 ?_
  refine lv_topi (fun v3 ev3 => ?_)
  have h := nm_use ev3 h
  refine lv_istore_n (lv' := [(0, .int v3)]) hx hb dJ6_bitCount_0f7a4_33 rfl hl (by decide) rfl (fun ls hl => ?_)
  refine lv_iload_n hx hb dJ6_bitCount_0f7a4_34 rfl (lv_at hl 0 rfl) ?_
  refine lv_iload_n hx hb dJ6_bitCount_0f7a4_35 rfl (lv_at hl 0 rfl) ?_
  refine lv_bipush (v := 8) hx hb dJ6_bitCount_0f7a4_36 (by decide) ?_
  refine lv_iushr hx hb dJ6_bitCount_0f7a4_38 rfl ?_
  refine lv_iadd hx hb dJ6_bitCount_0f7a4_39 ?_
  refine lv_topi (fun v4 ev4 => ?_)
  have h := nm_use ev4 h
  refine lv_istore_n (lv' := [(0, .int v4)]) hx hb dJ6_bitCount_0f7a4_40 rfl hl (by decide) rfl (fun ls hl => ?_)
  refine lv_iload_n hx hb dJ6_bitCount_0f7a4_41 rfl (lv_at hl 0 rfl) ?_
  refine lv_iload_n hx hb dJ6_bitCount_0f7a4_42 rfl (lv_at hl 0 rfl) ?_
  refine lv_bipush (v := 16) hx hb dJ6_bitCount_0f7a4_43 (by decide) ?_
  refine lv_iushr hx hb dJ6_bitCount_0f7a4_45 rfl ?_
  refine lv_iadd hx hb dJ6_bitCount_0f7a4_46 ?_
  refine lv_topi (fun v5 ev5 => ?_)
  have h := nm_use ev5 h
  refine lv_istore_n (lv' := [(0, .int v5)]) hx hb dJ6_bitCount_0f7a4_47 rfl hl (by decide) rfl (fun ls hl => ?_)
  refine lv_iload_n hx hb dJ6_bitCount_0f7a4_48 rfl (lv_at hl 0 rfl) ?_
  refine lv_bipush (v := 63) hx hb dJ6_bitCount_0f7a4_49 (by decide) ?_
  refine lv_iand hx hb dJ6_bitCount_0f7a4_51 ?_
  obtain er := rt1_use h
  exact rp_i hx hb hr hlocks hS er dJ6_bitCount_0f7a4_52
set_option maxHeartbeats 4000000 in
set_option maxRecDepth 100000 in
theorem kX8_ask (l : Launch) (n : Nat) (dC : Nat → ClassId) (dI : Nat → Nat → Nat) (cB cI cJ cZ : ClassId) (a : Nat → Nat) (adK adV : Nat → Nat) (sz : Nat) (ww_latestFault : Int32) (tp_bytes : Nat → Int32) (tp_size : Int32) (rd_fault : Int32) (rd_faultPlace : Int32) (rd_kind : Int32) (rd_start : Int32) (rd_at : Int32) (rd_number : Int32) (dr_letterMarks : Nat → Int32) (dr_names : Nat → Int64) (dr_spelled : Nat → Int32) (dr_rows : Nat → Int64) (dr_alike : Nat → Int32) (dr_near : Nat → Int32) (dr_asks : Nat → Int32) (dr_letters : Int32) (dr_words : Int32) (dr_askCount : Int32) (sh_lanes : Nat → Int32) (sh_sizes : Nat → Int32) (sh_cells : Nat → Int32) (la_xs : Nat → Int32) (la_ys : Nat → Int32) (la_heights : Nat → Int32) (la_ridgeXs : Nat → Int32) (la_ridgeHeights : Nat → Int32) (la_way : Nat → Int32) (la_blurs : Nat → Int32) (la_steps : Nat → Int32) (la_places : Int32) (la_ridges : Int32) (la_wayBlur : Int32) (la_wayLength : Int32) (bk_times : Nat → Int32) (bk_froms : Nat → Int32) (bk_asks : Nat → Int32) (bk_words : Nat → Int32) (bk_firsts : Nat → Int32) (bk_lies : Nat → Int32) (bk_held : Nat → Int32) (bk_size : Int32) (nu_learned : Nat → Int32) (nu_size : Int32) (to_letterMarks : Nat → Int32) (to_names : Nat → Int64) (to_spelled : Nat → Int32) (to_rows : Nat → Int64) (to_alike : Nat → Int32) (to_near : Nat → Int32) (to_asks : Nat → Int32) (to_letters : Int32) (to_words : Int32) (to_askCount : Int32) (x1 : Int32) (x2 : Int32) (r0 : Int32) (h : fX8_ask n to_asks to_askCount x1 x2 = some r0) : Met l yX8_ask wsX8_ask ({ frames := 1, cells := 0, slots := 0, locals := 21 }) (gP (dC, dI) (tyz cB cI cJ cZ) (E_X adK adV) (wX cB cI cJ cZ a (a 35) (a 4) ww_latestFault tp_bytes tp_size rd_fault rd_faultPlace rd_kind rd_start rd_at rd_number dr_letterMarks dr_names dr_spelled dr_rows dr_alike dr_near dr_asks dr_letters dr_words dr_askCount sh_lanes sh_sizes sh_cells la_xs la_ys la_heights la_ridgeXs la_ridgeHeights la_way la_blurs la_steps la_places la_ridges la_wayBlur la_wayLength bk_times bk_froms bk_asks bk_words bk_firsts bk_lies bk_held bk_size nu_learned nu_size to_letterMarks to_names to_spelled to_rows to_alike to_near to_asks to_letters to_words to_askCount) sz [.ref (a 0), .int x1, .int x2]) (gI (dC, dI) (tyz cB cI cJ cZ) (wX cB cI cJ cZ a (a 35) (a 4) ww_latestFault tp_bytes tp_size rd_fault rd_faultPlace rd_kind rd_start rd_at rd_number dr_letterMarks dr_names dr_spelled dr_rows dr_alike dr_near dr_asks dr_letters dr_words dr_askCount sh_lanes sh_sizes sh_cells la_xs la_ys la_heights la_ridgeXs la_ridgeHeights la_way la_blurs la_steps la_places la_ridges la_wayBlur la_wayLength bk_times bk_froms bk_asks bk_words bk_firsts bk_lies bk_held bk_size nu_learned nu_size to_letterMarks to_names to_spelled to_rows to_alike to_near to_asks to_letters to_words to_askCount) (va_A (wX cB cI cJ cZ a (a 35) (a 4) ww_latestFault tp_bytes tp_size rd_fault rd_faultPlace rd_kind rd_start rd_at rd_number dr_letterMarks dr_names dr_spelled dr_rows dr_alike dr_near dr_asks dr_letters dr_words dr_askCount sh_lanes sh_sizes sh_cells la_xs la_ys la_heights la_ridgeXs la_ridgeHeights la_way la_blurs la_steps la_places la_ridges la_wayBlur la_wayLength bk_times bk_froms bk_asks bk_words bk_firsts bk_lies bk_held bk_size nu_learned nu_size to_letterMarks to_names to_spelled to_rows to_alike to_near to_asks to_letters to_words to_askCount) sz) r0) 0 0 (va_A (wX cB cI cJ cZ a (a 35) (a 4) ww_latestFault tp_bytes tp_size rd_fault rd_faultPlace rd_kind rd_start rd_at rd_number dr_letterMarks dr_names dr_spelled dr_rows dr_alike dr_near dr_asks dr_letters dr_words dr_askCount sh_lanes sh_sizes sh_cells la_xs la_ys la_heights la_ridgeXs la_ridgeHeights la_way la_blurs la_steps la_places la_ridges la_wayBlur la_wayLength bk_times bk_froms bk_asks bk_words bk_firsts bk_lies bk_held bk_size nu_learned nu_size to_letterMarks to_names to_spelled to_rows to_alike to_near to_asks to_letters to_words to_askCount) sz) := by
  refine Met.ofW (cc := cX8_ask) (maxL := 3) (ret := (some .int)) (by decide) rfl ?_
  intro p e s m args below meth c s₁ B hml hv
  obtain ⟨rfl, hsz, hP, hK, hD0, hE⟩ := hv
  have hx := B.exec
  have hb := B.bytes
  have hr := B.returns
  have hts := atoms_spec (ws := wsX8_ask) B.pre
  have hown : s.vm.findClass RX8 = some m.cls := findClass_of_methodNamed B.named
  have hlocks := B.notSynchronized
  subst hsz
  have hD := hD0.self (sz := s.heap.size)
  have hA : ∀ q : Nat, s.heap.size ≤ q → va_A (wX cB cI cJ cZ a (a 35) (a 4) ww_latestFault tp_bytes tp_size rd_fault rd_faultPlace rd_kind rd_start rd_at rd_number dr_letterMarks dr_names dr_spelled dr_rows dr_alike dr_near dr_asks dr_letters dr_words dr_askCount sh_lanes sh_sizes sh_cells la_xs la_ys la_heights la_ridgeXs la_ridgeHeights la_way la_blurs la_steps la_places la_ridges la_wayBlur la_wayLength bk_times bk_froms bk_asks bk_words bk_firsts bk_lies bk_held bk_size nu_learned nu_size to_letterMarks to_names to_spelled to_rows to_alike to_near to_asks to_letters to_words to_askCount) s.heap.size q := fun q h => Or.inr h
  generalize va_A (wX cB cI cJ cZ a (a 35) (a 4) ww_latestFault tp_bytes tp_size rd_fault rd_faultPlace rd_kind rd_start rd_at rd_number dr_letterMarks dr_names dr_spelled dr_rows dr_alike dr_near dr_asks dr_letters dr_words dr_askCount sh_lanes sh_sizes sh_cells la_xs la_ys la_heights la_ridgeXs la_ridgeHeights la_way la_blurs la_steps la_places la_ridges la_wayBlur la_wayLength bk_times bk_froms bk_asks bk_words bk_firsts bk_lies bk_held bk_size nu_learned nu_size to_letterMarks to_names to_spelled to_rows to_alike to_near to_asks to_letters to_words to_askCount) s.heap.size = A at hD hA hE ⊢
  have hS : va_S A s.heap s.heap [] := va_S.rf
  have C0 : cxt cX8_ask (some .int) 3 RX8 wsX8_ask (dC, dI) (tyz cB cI cJ cZ) (E_X adK adV) A p s m ([.ref (a 0), .int x1, .int x2] : List Value).toArray meth c := ⟨hx, hb, hr, hml, hown, hts, hlocks, hK, hA, hE⟩
  have hl := lv_entry ([.ref (a 0), .int x1, .int x2]) (n := 3) (Nat.le_of_ble_eq_true rfl)
  rw [lg_entry_eq]
  generalize (lg_sl ([.ref (a 0), .int x1, .int x2]) ++ List.replicate (3 - (lg_sl ([.ref (a 0), .int x1, .int x2])).length) Slot.unset).toArray = ls at hl ⊢
  have hl : lv_has ls 3 [(0, .ref (a 0)), (1, .int x1), (2, .int x2)] := hl
  have hw0 := hts (.fieldLink RX8 60 "WhistledWords" "told" "LWhistledWords$Tongue;") (by decide +kernel)
  have hw1 := hts (.fieldLink RX8 131 "WhistledWords$Tongue" "asks" "[I") (by decide +kernel)
  have hnX8 : ∀ w ∈ u_ws RX8 TX8 8, w ∈ wsX8_ask := fun _ h => List.mem_cons_of_mem _ (List.mem_append_left _ (List.mem_append_right _ h))
  have hnX7 : ∀ w ∈ u_ws RX7 TX7 10, w ∈ wsX8_ask := fun _ h => List.mem_cons_of_mem _ (List.mem_append_right _ h)
  unfold fX8_ask at h
  refine lv_aload_n hx hb dX8_ask_0 rfl (lv_at hl 0 rfl) ?_
  refine gX_ww_told hx hb hts hnX8 hown hK hP hw0 dX8_ask_1 ?_
  refine lv_iload_n hx hb dX8_ask_4 rfl (lv_at hl 1 rfl) ?_
  obtain ⟨v1, hc, h⟩ := bd1_use h
  refine cv_i (As := [.int x1]) (rest := []) ⟨hx, hb, hml, hown, hts⟩ (kX7_isAsk l n dC dI cB cI cJ cZ a adK adV _ ww_latestFault tp_bytes tp_size rd_fault rd_faultPlace rd_kind rd_start rd_at rd_number dr_letterMarks dr_names dr_spelled dr_rows dr_alike dr_near dr_asks dr_letters dr_words dr_askCount sh_lanes sh_sizes sh_cells la_xs la_ys la_heights la_ridgeXs la_ridgeHeights la_way la_blurs la_steps la_places la_ridges la_wayBlur la_wayLength bk_times bk_froms bk_asks bk_words bk_firsts bk_lies bk_held bk_size nu_learned nu_size to_letterMarks to_names to_spelled to_rows to_alike to_near to_asks to_letters to_words to_askCount x1 v1 hc) (cwV 1 hts gX8_ask_X7_isAsk rfl rfl rfl (by decide +kernel) ⟨Nat.le_of_ble_eq_true rfl, Nat.le_of_ble_eq_true rfl⟩) EB_X hE hK hP hD hS hA 35 (ci := 6) rfl rfl rfl rfl hl.1 rfl (Nat.le_of_ble_eq_true rfl) dX8_ask_5 ⟨Nat.zero_le _, Nat.zero_le _⟩ (fun H locs hP hD hS => ?_)
  refine lv_if_eq (tgt := 20) hx hb dX8_ask_8 (by decide) (fun c2 => ?_) (fun c2 => ?_)
  · have h := it_use c2 h
    refine lv_iconst (v := -1) hx hb dX8_ask_20 (by decide) ?_
    obtain er := rt1_use h
    exact re_i hx hb hr hlocks hK hP hD hS er dX8_ask_21
  · have h := ie_use c2 h
    refine lv_iload_n hx hb dX8_ask_11 rfl (lv_at hl 2 rfl) ?_
    refine lv_if_lt (tgt := 20) hx hb dX8_ask_12 (by decide) (fun c3 => ?_) (fun c3 => ?_)
    · have h := it_use c3 h
      refine lv_iconst (v := -1) hx hb dX8_ask_20 (by decide) ?_
      obtain er := rt1_use h
      exact re_i hx hb hr hlocks hK hP hD hS er dX8_ask_21
    · have h := ie_use c3 h
      refine lv_iload_n hx hb dX8_ask_15 rfl (lv_at hl 2 rfl) ?_
      refine lv_iconst (v := 1) hx hb dX8_ask_16 (by decide) ?_
      refine lv_icmp_le (tgt := 22) hx hb dX8_ask_17 (by decide) (fun c4 => ?_) (fun c4 => ?_)
      · have h := it_use c4 h
        refine lv_iload_n hx hb dX8_ask_22 rfl (lv_at hl 2 rfl) ?_
        refine lv_if_ne (tgt := 41) hx hb dX8_ask_23 (by decide) (fun c5 => ?_) (fun c5 => ?_)
        · have h := ie_use c5 h
          refine lv_aload_n hx hb dX8_ask_41 rfl (lv_at hl 0 rfl) ?_
          refine gX_ww_told hx hb hts hnX8 hown hK hP hw0 dX8_ask_42 ?_
          refine gX_told_asks hx hb hts hnX7 hown hK hP hw1 dX8_ask_45 ?_
          refine lv_iload_n hx hb dX8_ask_48 rfl (lv_at hl 1 rfl) ?_
          obtain ⟨hiv6, h⟩ := ar_use h
          refine lX_told_asks hx hb hK hP hiv6 dX8_ask_49 ?_
          refine lv_topi (fun v6 ev6 => ?_)
          have h := h v6 ev6
          obtain er := rt1_use h
          exact re_i hx hb hr hlocks hK hP hD hS er dX8_ask_50
        · have h := it_use c5 h
          refine lv_aload_n hx hb dX8_ask_26 rfl (lv_at hl 0 rfl) ?_
          refine gX_ww_told hx hb hts hnX8 hown hK hP hw0 dX8_ask_27 ?_
          refine gX_told_asks hx hb hts hnX7 hown hK hP hw1 dX8_ask_30 ?_
          refine lv_iload_n hx hb dX8_ask_33 rfl (lv_at hl 1 rfl) ?_
          obtain ⟨hiv7, h⟩ := ar_use h
          refine lX_told_asks hx hb hK hP hiv7 dX8_ask_34 ?_
          refine lv_topi (fun v7 ev7 => ?_)
          have h := h v7 ev7
          obtain ⟨v8, hc, h⟩ := bd1_use h
          refine cs_i (As := [.int v7]) (rest := []) ⟨hx, hb, hml, hown, hts⟩ (kJ6_bitCount_0f7a4 l n v7 v8 hc) (va_cwS 1 hts gX8_ask_J6_bitCount_0f7a4 rfl rfl rfl (by decide +kernel) ⟨Nat.le_of_ble_eq_true rfl, Nat.le_of_ble_eq_true rfl⟩) hP hS rfl hl.1 rfl (Nat.le_of_ble_eq_true rfl) dX8_ask_35 ⟨Nat.zero_le _, Nat.zero_le _⟩ (fun H locs hP hS => ?_)
          refine lv_goto (tgt := 50) hx hb dX8_ask_38 (by decide) ?_
          obtain er := rt1_use h
          exact re_i hx hb hr hlocks hK hP hD hS er dX8_ask_50
      · have h := ie_use c4 h
        refine lv_iconst (v := -1) hx hb dX8_ask_20 (by decide) ?_
        obtain er := rt1_use h
        exact re_i hx hb hr hlocks hK hP hD hS er dX8_ask_21
set_option maxHeartbeats 4000000 in
set_option maxRecDepth 100000 in
theorem kX8_isBlur (l : Launch) (n : Nat) (x0 : Int32) (r0 : Int32) (h : fX8_isBlur n  x0 = some r0) : Met l yX8_isBlur wsX8_isBlur ({ frames := 0, cells := 0, slots := 0, locals := 0 }) (pP [.int x0]) (pI r0) 0 0 no_A := by
  refine Met.ofW (cc := cX8_isBlur) (maxL := 1) (ret := (some .boolean)) (by decide) rfl ?_
  intro p e s m args below meth c s₁ B hml hv
  obtain ⟨rfl, -⟩ := hv
  have hx := B.exec
  have hb := B.bytes
  have hr := B.returns
  have hts := atoms_spec (ws := wsX8_isBlur) B.pre
  have hown : s.vm.findClass RX8 = some m.cls := findClass_of_methodNamed B.named
  have hlocks := B.notSynchronized
  have hS : va_S no_A s.heap s.heap [] := va_S.rf
  have C0 : cxp cX8_isBlur (some .boolean) 1 RX8 wsX8_isBlur p s m ([.int x0] : List Value).toArray meth c := ⟨hx, hb, hr, hml, hown, hts, hlocks⟩
  have hl := lv_entry ([.int x0]) (n := 1) (Nat.le_of_ble_eq_true rfl)
  rw [lg_entry_eq]
  generalize (lg_sl ([.int x0]) ++ List.replicate (1 - (lg_sl ([.int x0])).length) Slot.unset).toArray = ls at hl ⊢
  have hl : lv_has ls 1 [(0, .int x0)] := hl
  unfold fX8_isBlur at h
  refine lv_iload_n hx hb dX8_isBlur_0 rfl (lv_at hl 0 rfl) ?_
  refine lv_if_lt (tgt := 14) hx hb dX8_isBlur_1 (by decide) (fun c1 => ?_) (fun c1 => ?_)
  · have h := it_use c1 h
    refine lv_iconst (v := 0) hx hb dX8_isBlur_14 (by decide) ?_
    obtain er := rt1_use h
    exact rp_z hx hb hr hlocks hS (Or.inl rfl) er dX8_isBlur_15
  · have h := ie_use c1 h
    refine lv_iload_n hx hb dX8_isBlur_4 rfl (lv_at hl 0 rfl) ?_
    refine lv_bipush (v := 6) hx hb dX8_isBlur_5 (by decide) ?_
    refine lv_icmp_ge (tgt := 14) hx hb dX8_isBlur_7 (by decide) (fun c2 => ?_) (fun c2 => ?_)
    · have h := it_use c2 h
      refine lv_iconst (v := 0) hx hb dX8_isBlur_14 (by decide) ?_
      obtain er := rt1_use h
      exact rp_z hx hb hr hlocks hS (Or.inl rfl) er dX8_isBlur_15
    · have h := ie_use c2 h
      refine lv_iconst (v := 1) hx hb dX8_isBlur_10 (by decide) ?_
      refine lv_goto (tgt := 15) hx hb dX8_isBlur_11 (by decide) ?_
      obtain er := rt1_use h
      exact rp_z hx hb hr hlocks hS (Or.inr rfl) er dX8_isBlur_15
set_option maxHeartbeats 4000000 in
set_option maxRecDepth 100000 in
theorem kX7_rowAt (l : Launch) (n : Nat) (dC : Nat → ClassId) (dI : Nat → Nat → Nat) (cB cI cJ cZ : ClassId) (a : Nat → Nat) (adK adV : Nat → Nat) (sz : Nat) (ww_latestFault : Int32) (tp_bytes : Nat → Int32) (tp_size : Int32) (rd_fault : Int32) (rd_faultPlace : Int32) (rd_kind : Int32) (rd_start : Int32) (rd_at : Int32) (rd_number : Int32) (dr_letterMarks : Nat → Int32) (dr_names : Nat → Int64) (dr_spelled : Nat → Int32) (dr_rows : Nat → Int64) (dr_alike : Nat → Int32) (dr_near : Nat → Int32) (dr_asks : Nat → Int32) (dr_letters : Int32) (dr_words : Int32) (dr_askCount : Int32) (sh_lanes : Nat → Int32) (sh_sizes : Nat → Int32) (sh_cells : Nat → Int32) (la_xs : Nat → Int32) (la_ys : Nat → Int32) (la_heights : Nat → Int32) (la_ridgeXs : Nat → Int32) (la_ridgeHeights : Nat → Int32) (la_way : Nat → Int32) (la_blurs : Nat → Int32) (la_steps : Nat → Int32) (la_places : Int32) (la_ridges : Int32) (la_wayBlur : Int32) (la_wayLength : Int32) (bk_times : Nat → Int32) (bk_froms : Nat → Int32) (bk_asks : Nat → Int32) (bk_words : Nat → Int32) (bk_firsts : Nat → Int32) (bk_lies : Nat → Int32) (bk_held : Nat → Int32) (bk_size : Int32) (nu_learned : Nat → Int32) (nu_size : Int32) (to_letterMarks : Nat → Int32) (to_names : Nat → Int64) (to_spelled : Nat → Int32) (to_rows : Nat → Int64) (to_alike : Nat → Int32) (to_near : Nat → Int32) (to_asks : Nat → Int32) (to_letters : Int32) (to_words : Int32) (to_askCount : Int32) (x1 : Int32) (x2 : Int32) (r0 : Int64) (h : fX7_rowAt n to_rows x1 x2 = some r0) : Met l yX7_rowAt wsX7_rowAt ({ frames := 0, cells := 0, slots := 0, locals := 0 }) (gP (dC, dI) (tyz cB cI cJ cZ) (E_X adK adV) (wX cB cI cJ cZ a (a 35) (a 4) ww_latestFault tp_bytes tp_size rd_fault rd_faultPlace rd_kind rd_start rd_at rd_number dr_letterMarks dr_names dr_spelled dr_rows dr_alike dr_near dr_asks dr_letters dr_words dr_askCount sh_lanes sh_sizes sh_cells la_xs la_ys la_heights la_ridgeXs la_ridgeHeights la_way la_blurs la_steps la_places la_ridges la_wayBlur la_wayLength bk_times bk_froms bk_asks bk_words bk_firsts bk_lies bk_held bk_size nu_learned nu_size to_letterMarks to_names to_spelled to_rows to_alike to_near to_asks to_letters to_words to_askCount) sz [.ref (a 35), .int x1, .int x2]) (gL (dC, dI) (tyz cB cI cJ cZ) (wX cB cI cJ cZ a (a 35) (a 4) ww_latestFault tp_bytes tp_size rd_fault rd_faultPlace rd_kind rd_start rd_at rd_number dr_letterMarks dr_names dr_spelled dr_rows dr_alike dr_near dr_asks dr_letters dr_words dr_askCount sh_lanes sh_sizes sh_cells la_xs la_ys la_heights la_ridgeXs la_ridgeHeights la_way la_blurs la_steps la_places la_ridges la_wayBlur la_wayLength bk_times bk_froms bk_asks bk_words bk_firsts bk_lies bk_held bk_size nu_learned nu_size to_letterMarks to_names to_spelled to_rows to_alike to_near to_asks to_letters to_words to_askCount) (va_A (wX cB cI cJ cZ a (a 35) (a 4) ww_latestFault tp_bytes tp_size rd_fault rd_faultPlace rd_kind rd_start rd_at rd_number dr_letterMarks dr_names dr_spelled dr_rows dr_alike dr_near dr_asks dr_letters dr_words dr_askCount sh_lanes sh_sizes sh_cells la_xs la_ys la_heights la_ridgeXs la_ridgeHeights la_way la_blurs la_steps la_places la_ridges la_wayBlur la_wayLength bk_times bk_froms bk_asks bk_words bk_firsts bk_lies bk_held bk_size nu_learned nu_size to_letterMarks to_names to_spelled to_rows to_alike to_near to_asks to_letters to_words to_askCount) sz) r0) 0 0 (va_A (wX cB cI cJ cZ a (a 35) (a 4) ww_latestFault tp_bytes tp_size rd_fault rd_faultPlace rd_kind rd_start rd_at rd_number dr_letterMarks dr_names dr_spelled dr_rows dr_alike dr_near dr_asks dr_letters dr_words dr_askCount sh_lanes sh_sizes sh_cells la_xs la_ys la_heights la_ridgeXs la_ridgeHeights la_way la_blurs la_steps la_places la_ridges la_wayBlur la_wayLength bk_times bk_froms bk_asks bk_words bk_firsts bk_lies bk_held bk_size nu_learned nu_size to_letterMarks to_names to_spelled to_rows to_alike to_near to_asks to_letters to_words to_askCount) sz) := by
  refine Met.ofW (cc := cX7_rowAt) (maxL := 3) (ret := (some .long)) (by decide) rfl ?_
  intro p e s m args below meth c s₁ B hml hv
  obtain ⟨rfl, hsz, hP, hK, hD0, hE⟩ := hv
  have hx := B.exec
  have hb := B.bytes
  have hr := B.returns
  have hts := atoms_spec (ws := wsX7_rowAt) B.pre
  have hown : s.vm.findClass RX7 = some m.cls := findClass_of_methodNamed B.named
  have hlocks := B.notSynchronized
  subst hsz
  have hD := hD0.self (sz := s.heap.size)
  have hA : ∀ q : Nat, s.heap.size ≤ q → va_A (wX cB cI cJ cZ a (a 35) (a 4) ww_latestFault tp_bytes tp_size rd_fault rd_faultPlace rd_kind rd_start rd_at rd_number dr_letterMarks dr_names dr_spelled dr_rows dr_alike dr_near dr_asks dr_letters dr_words dr_askCount sh_lanes sh_sizes sh_cells la_xs la_ys la_heights la_ridgeXs la_ridgeHeights la_way la_blurs la_steps la_places la_ridges la_wayBlur la_wayLength bk_times bk_froms bk_asks bk_words bk_firsts bk_lies bk_held bk_size nu_learned nu_size to_letterMarks to_names to_spelled to_rows to_alike to_near to_asks to_letters to_words to_askCount) s.heap.size q := fun q h => Or.inr h
  generalize va_A (wX cB cI cJ cZ a (a 35) (a 4) ww_latestFault tp_bytes tp_size rd_fault rd_faultPlace rd_kind rd_start rd_at rd_number dr_letterMarks dr_names dr_spelled dr_rows dr_alike dr_near dr_asks dr_letters dr_words dr_askCount sh_lanes sh_sizes sh_cells la_xs la_ys la_heights la_ridgeXs la_ridgeHeights la_way la_blurs la_steps la_places la_ridges la_wayBlur la_wayLength bk_times bk_froms bk_asks bk_words bk_firsts bk_lies bk_held bk_size nu_learned nu_size to_letterMarks to_names to_spelled to_rows to_alike to_near to_asks to_letters to_words to_askCount) s.heap.size = A at hD hA hE ⊢
  have hS : va_S A s.heap s.heap [] := va_S.rf
  have C0 : cxt cX7_rowAt (some .long) 3 RX7 wsX7_rowAt (dC, dI) (tyz cB cI cJ cZ) (E_X adK adV) A p s m ([.ref (a 35), .int x1, .int x2] : List Value).toArray meth c := ⟨hx, hb, hr, hml, hown, hts, hlocks, hK, hA, hE⟩
  have hl := lv_entry ([.ref (a 35), .int x1, .int x2]) (n := 3) (Nat.le_of_ble_eq_true rfl)
  rw [lg_entry_eq]
  generalize (lg_sl ([.ref (a 35), .int x1, .int x2]) ++ List.replicate (3 - (lg_sl ([.ref (a 35), .int x1, .int x2])).length) Slot.unset).toArray = ls at hl ⊢
  have hl : lv_has ls 3 [(0, .ref (a 35)), (1, .int x1), (2, .int x2)] := hl
  have hw0 := hts (.fieldLink RX7 28 "WhistledWords$Tongue" "rows" "[J") (by decide +kernel)
  have hnX7 : ∀ w ∈ u_ws RX7 TX7 10, w ∈ wsX7_rowAt := fun _ h => List.mem_cons_of_mem _ (List.mem_append_right _ h)
  unfold fX7_rowAt at h
  refine lv_aload_n hx hb dX7_rowAt_0 rfl (lv_at hl 0 rfl) ?_
  refine gX_told_rows hx hb hts hnX7 hown hK hP hw0 dX7_rowAt_1 ?_
  refine lv_iload_n hx hb dX7_rowAt_4 rfl (lv_at hl 1 rfl) ?_
  refine lv_bipush (v := 16) hx hb dX7_rowAt_5 (by decide) ?_
  refine lv_imul hx hb dX7_rowAt_7 ?_
  refine lv_iload_n hx hb dX7_rowAt_8 rfl (lv_at hl 2 rfl) ?_
  refine lv_iadd hx hb dX7_rowAt_9 ?_
  obtain ⟨hiv1, h⟩ := ar_use h
  refine lX_told_rows hx hb hK hP hiv1 dX7_rowAt_10 ?_
  refine lv_topl (fun v1 ev1 => ?_)
  have h := h v1 ev1
  obtain er := rt1_use h
  exact re_l hx hb hr hlocks hK hP hD hS er dX7_rowAt_11
set_option maxHeartbeats 4000000 in
set_option maxRecDepth 100000 in
theorem kX8_blurred (l : Launch) (n : Nat) (dC : Nat → ClassId) (dI : Nat → Nat → Nat) (cB cI cJ cZ : ClassId) (a : Nat → Nat) (adK adV : Nat → Nat) (sz : Nat) (ww_latestFault : Int32) (tp_bytes : Nat → Int32) (tp_size : Int32) (rd_fault : Int32) (rd_faultPlace : Int32) (rd_kind : Int32) (rd_start : Int32) (rd_at : Int32) (rd_number : Int32) (dr_letterMarks : Nat → Int32) (dr_names : Nat → Int64) (dr_spelled : Nat → Int32) (dr_rows : Nat → Int64) (dr_alike : Nat → Int32) (dr_near : Nat → Int32) (dr_asks : Nat → Int32) (dr_letters : Int32) (dr_words : Int32) (dr_askCount : Int32) (sh_lanes : Nat → Int32) (sh_sizes : Nat → Int32) (sh_cells : Nat → Int32) (la_xs : Nat → Int32) (la_ys : Nat → Int32) (la_heights : Nat → Int32) (la_ridgeXs : Nat → Int32) (la_ridgeHeights : Nat → Int32) (la_way : Nat → Int32) (la_blurs : Nat → Int32) (la_steps : Nat → Int32) (la_places : Int32) (la_ridges : Int32) (la_wayBlur : Int32) (la_wayLength : Int32) (bk_times : Nat → Int32) (bk_froms : Nat → Int32) (bk_asks : Nat → Int32) (bk_words : Nat → Int32) (bk_firsts : Nat → Int32) (bk_lies : Nat → Int32) (bk_held : Nat → Int32) (bk_size : Int32) (nu_learned : Nat → Int32) (nu_size : Int32) (to_letterMarks : Nat → Int32) (to_names : Nat → Int64) (to_spelled : Nat → Int32) (to_rows : Nat → Int64) (to_alike : Nat → Int32) (to_near : Nat → Int32) (to_asks : Nat → Int32) (to_letters : Int32) (to_words : Int32) (to_askCount : Int32) (x1 : Int32) (x2 : Int32) (x3 : Int32) (r0 : Int32) (h : fX8_blurred n to_rows to_words x1 x2 x3 = some r0) : Met l yX8_blurred wsX8_blurred ({ frames := 1, cells := 0, slots := 0, locals := 23 }) (gP (dC, dI) (tyz cB cI cJ cZ) (E_X adK adV) (wX cB cI cJ cZ a (a 35) (a 4) ww_latestFault tp_bytes tp_size rd_fault rd_faultPlace rd_kind rd_start rd_at rd_number dr_letterMarks dr_names dr_spelled dr_rows dr_alike dr_near dr_asks dr_letters dr_words dr_askCount sh_lanes sh_sizes sh_cells la_xs la_ys la_heights la_ridgeXs la_ridgeHeights la_way la_blurs la_steps la_places la_ridges la_wayBlur la_wayLength bk_times bk_froms bk_asks bk_words bk_firsts bk_lies bk_held bk_size nu_learned nu_size to_letterMarks to_names to_spelled to_rows to_alike to_near to_asks to_letters to_words to_askCount) sz [.ref (a 0), .int x1, .int x2, .int x3]) (gI (dC, dI) (tyz cB cI cJ cZ) (wX cB cI cJ cZ a (a 35) (a 4) ww_latestFault tp_bytes tp_size rd_fault rd_faultPlace rd_kind rd_start rd_at rd_number dr_letterMarks dr_names dr_spelled dr_rows dr_alike dr_near dr_asks dr_letters dr_words dr_askCount sh_lanes sh_sizes sh_cells la_xs la_ys la_heights la_ridgeXs la_ridgeHeights la_way la_blurs la_steps la_places la_ridges la_wayBlur la_wayLength bk_times bk_froms bk_asks bk_words bk_firsts bk_lies bk_held bk_size nu_learned nu_size to_letterMarks to_names to_spelled to_rows to_alike to_near to_asks to_letters to_words to_askCount) (va_A (wX cB cI cJ cZ a (a 35) (a 4) ww_latestFault tp_bytes tp_size rd_fault rd_faultPlace rd_kind rd_start rd_at rd_number dr_letterMarks dr_names dr_spelled dr_rows dr_alike dr_near dr_asks dr_letters dr_words dr_askCount sh_lanes sh_sizes sh_cells la_xs la_ys la_heights la_ridgeXs la_ridgeHeights la_way la_blurs la_steps la_places la_ridges la_wayBlur la_wayLength bk_times bk_froms bk_asks bk_words bk_firsts bk_lies bk_held bk_size nu_learned nu_size to_letterMarks to_names to_spelled to_rows to_alike to_near to_asks to_letters to_words to_askCount) sz) r0) 0 0 (va_A (wX cB cI cJ cZ a (a 35) (a 4) ww_latestFault tp_bytes tp_size rd_fault rd_faultPlace rd_kind rd_start rd_at rd_number dr_letterMarks dr_names dr_spelled dr_rows dr_alike dr_near dr_asks dr_letters dr_words dr_askCount sh_lanes sh_sizes sh_cells la_xs la_ys la_heights la_ridgeXs la_ridgeHeights la_way la_blurs la_steps la_places la_ridges la_wayBlur la_wayLength bk_times bk_froms bk_asks bk_words bk_firsts bk_lies bk_held bk_size nu_learned nu_size to_letterMarks to_names to_spelled to_rows to_alike to_near to_asks to_letters to_words to_askCount) sz) := by
  refine Met.ofW (cc := cX8_blurred) (maxL := 4) (ret := (some .int)) (by decide) rfl ?_
  intro p e s m args below meth c s₁ B hml hv
  obtain ⟨rfl, hsz, hP, hK, hD0, hE⟩ := hv
  have hx := B.exec
  have hb := B.bytes
  have hr := B.returns
  have hts := atoms_spec (ws := wsX8_blurred) B.pre
  have hown : s.vm.findClass RX8 = some m.cls := findClass_of_methodNamed B.named
  have hlocks := B.notSynchronized
  subst hsz
  have hD := hD0.self (sz := s.heap.size)
  have hA : ∀ q : Nat, s.heap.size ≤ q → va_A (wX cB cI cJ cZ a (a 35) (a 4) ww_latestFault tp_bytes tp_size rd_fault rd_faultPlace rd_kind rd_start rd_at rd_number dr_letterMarks dr_names dr_spelled dr_rows dr_alike dr_near dr_asks dr_letters dr_words dr_askCount sh_lanes sh_sizes sh_cells la_xs la_ys la_heights la_ridgeXs la_ridgeHeights la_way la_blurs la_steps la_places la_ridges la_wayBlur la_wayLength bk_times bk_froms bk_asks bk_words bk_firsts bk_lies bk_held bk_size nu_learned nu_size to_letterMarks to_names to_spelled to_rows to_alike to_near to_asks to_letters to_words to_askCount) s.heap.size q := fun q h => Or.inr h
  generalize va_A (wX cB cI cJ cZ a (a 35) (a 4) ww_latestFault tp_bytes tp_size rd_fault rd_faultPlace rd_kind rd_start rd_at rd_number dr_letterMarks dr_names dr_spelled dr_rows dr_alike dr_near dr_asks dr_letters dr_words dr_askCount sh_lanes sh_sizes sh_cells la_xs la_ys la_heights la_ridgeXs la_ridgeHeights la_way la_blurs la_steps la_places la_ridges la_wayBlur la_wayLength bk_times bk_froms bk_asks bk_words bk_firsts bk_lies bk_held bk_size nu_learned nu_size to_letterMarks to_names to_spelled to_rows to_alike to_near to_asks to_letters to_words to_askCount) s.heap.size = A at hD hA hE ⊢
  have hS : va_S A s.heap s.heap [] := va_S.rf
  have C0 : cxt cX8_blurred (some .int) 4 RX8 wsX8_blurred (dC, dI) (tyz cB cI cJ cZ) (E_X adK adV) A p s m ([.ref (a 0), .int x1, .int x2, .int x3] : List Value).toArray meth c := ⟨hx, hb, hr, hml, hown, hts, hlocks, hK, hA, hE⟩
  have hl := lv_entry ([.ref (a 0), .int x1, .int x2, .int x3]) (n := 4) (Nat.le_of_ble_eq_true rfl)
  rw [lg_entry_eq]
  generalize (lg_sl ([.ref (a 0), .int x1, .int x2, .int x3]) ++ List.replicate (4 - (lg_sl ([.ref (a 0), .int x1, .int x2, .int x3])).length) Slot.unset).toArray = ls at hl ⊢
  have hl : lv_has ls 4 [(0, .ref (a 0)), (1, .int x1), (2, .int x2), (3, .int x3)] := hl
  have hw0 := hts (.fieldLink RX8 60 "WhistledWords" "told" "LWhistledWords$Tongue;") (by decide +kernel)
  have hnX8 : ∀ w ∈ u_ws RX8 TX8 8, w ∈ wsX8_blurred := fun _ h => List.mem_cons_of_mem _ (List.mem_append_left _ (List.mem_append_right _ h))
  unfold fX8_blurred at h
  refine lv_aload_n hx hb dX8_blurred_0 rfl (lv_at hl 0 rfl) ?_
  refine gX_ww_told hx hb hts hnX8 hown hK hP hw0 dX8_blurred_1 ?_
  refine lv_iload_n hx hb dX8_blurred_4 rfl (lv_at hl 1 rfl) ?_
  obtain ⟨v1, hc, h⟩ := bd1_use h
  refine cv_i (As := [.int x1]) (rest := []) ⟨hx, hb, hml, hown, hts⟩ (kX7_isWord l n dC dI cB cI cJ cZ a adK adV _ ww_latestFault tp_bytes tp_size rd_fault rd_faultPlace rd_kind rd_start rd_at rd_number dr_letterMarks dr_names dr_spelled dr_rows dr_alike dr_near dr_asks dr_letters dr_words dr_askCount sh_lanes sh_sizes sh_cells la_xs la_ys la_heights la_ridgeXs la_ridgeHeights la_way la_blurs la_steps la_places la_ridges la_wayBlur la_wayLength bk_times bk_froms bk_asks bk_words bk_firsts bk_lies bk_held bk_size nu_learned nu_size to_letterMarks to_names to_spelled to_rows to_alike to_near to_asks to_letters to_words to_askCount x1 v1 hc) (cwV 1 hts gX8_blurred_X7_isWord rfl rfl rfl (by decide +kernel) ⟨Nat.le_of_ble_eq_true rfl, Nat.le_of_ble_eq_true rfl⟩) EB_X hE hK hP hD hS hA 35 (ci := 6) rfl rfl rfl rfl hl.1 rfl (Nat.le_of_ble_eq_true rfl) dX8_blurred_5 ⟨Nat.zero_le _, Nat.zero_le _⟩ (fun H locs hP hD hS => ?_)
  refine lv_if_eq (tgt := 22) hx hb dX8_blurred_8 (by decide) (fun c2 => ?_) (fun c2 => ?_)
  · have h := it_use c2 h
    refine lv_iconst (v := -1) hx hb dX8_blurred_22 (by decide) ?_
    obtain er := rt1_use h
    exact re_i hx hb hr hlocks hK hP hD hS er dX8_blurred_23
  · have h := ie_use c2 h
    refine lv_iload_n hx hb dX8_blurred_11 rfl (lv_at hl 2 rfl) ?_
    obtain ⟨v3, hc, h⟩ := bd1_use h
    refine cs_i (As := [.int x2]) (rest := []) ⟨hx, hb, hml, hown, hts⟩ (kX8_isBlur l n x2 v3 hc) (va_cwS 1 hts gX8_blurred_X8_isBlur rfl rfl rfl (by decide +kernel) ⟨Nat.le_of_ble_eq_true rfl, Nat.le_of_ble_eq_true rfl⟩) hP hS rfl hl.1 rfl (Nat.le_of_ble_eq_true rfl) dX8_blurred_12 ⟨Nat.zero_le _, Nat.zero_le _⟩ (fun H locs hP hS => ?_)
    refine lv_if_eq (tgt := 22) hx hb dX8_blurred_15 (by decide) (fun c4 => ?_) (fun c4 => ?_)
    · have h := it_use c4 h
      refine lv_iconst (v := -1) hx hb dX8_blurred_22 (by decide) ?_
      obtain er := rt1_use h
      exact re_i hx hb hr hlocks hK hP hD hS er dX8_blurred_23
    · have h := ie_use c4 h
      refine lv_iload_n hx hb dX8_blurred_18 rfl (lv_at hl 3 rfl) ?_
      refine lv_if_ge (tgt := 24) hx hb dX8_blurred_19 (by decide) (fun c5 => ?_) (fun c5 => ?_)
      · have h := it_use c5 h
        refine lv_aload_n hx hb dX8_blurred_24 rfl (lv_at hl 0 rfl) ?_
        refine gX_ww_told hx hb hts hnX8 hown hK hP hw0 dX8_blurred_25 ?_
        refine lv_iload_n hx hb dX8_blurred_28 rfl (lv_at hl 2 rfl) ?_
        refine lv_iload_n hx hb dX8_blurred_29 rfl (lv_at hl 1 rfl) ?_
        obtain ⟨v6, hc, h⟩ := bd1_use h
        refine cv_l (As := [.int x2, .int x1]) (rest := []) ⟨hx, hb, hml, hown, hts⟩ (kX7_rowAt l n dC dI cB cI cJ cZ a adK adV _ ww_latestFault tp_bytes tp_size rd_fault rd_faultPlace rd_kind rd_start rd_at rd_number dr_letterMarks dr_names dr_spelled dr_rows dr_alike dr_near dr_asks dr_letters dr_words dr_askCount sh_lanes sh_sizes sh_cells la_xs la_ys la_heights la_ridgeXs la_ridgeHeights la_way la_blurs la_steps la_places la_ridges la_wayBlur la_wayLength bk_times bk_froms bk_asks bk_words bk_firsts bk_lies bk_held bk_size nu_learned nu_size to_letterMarks to_names to_spelled to_rows to_alike to_near to_asks to_letters to_words to_askCount x2 x1 v6 hc) (cwV 2 hts gX8_blurred_X7_rowAt rfl rfl rfl (by decide +kernel) ⟨Nat.le_of_ble_eq_true rfl, Nat.le_of_ble_eq_true rfl⟩) EB_X hE hK hP hD hS hA 35 (ci := 6) rfl rfl rfl rfl hl.1 rfl (Nat.le_of_ble_eq_true rfl) dX8_blurred_30 ⟨Nat.zero_le _, Nat.zero_le _⟩ (fun H locs hP hD hS => ?_)
        refine lv_iload_n hx hb dX8_blurred_33 rfl (lv_at hl 3 rfl) ?_
        obtain ⟨v7, hc, h⟩ := bd1_use h
        refine cs_i (As := [.long v6, .int x3]) (rest := []) ⟨hx, hb, hml, hown, hts⟩ (kX3_markAt l n v6 x3 v7 hc) (va_cwS 2 hts gX8_blurred_X3_markAt rfl rfl rfl (by decide +kernel) ⟨Nat.le_of_ble_eq_true rfl, Nat.le_of_ble_eq_true rfl⟩) hP hS rfl hl.1 rfl (Nat.le_of_ble_eq_true rfl) dX8_blurred_34 ⟨Nat.zero_le _, Nat.zero_le _⟩ (fun H locs hP hS => ?_)
        obtain er := rt1_use h
        exact re_i hx hb hr hlocks hK hP hD hS er dX8_blurred_37
      · have h := ie_use c5 h
        refine lv_iconst (v := -1) hx hb dX8_blurred_22 (by decide) ?_
        obtain er := rt1_use h
        exact re_i hx hb hr hlocks hK hP hD hS er dX8_blurred_23
set_option maxHeartbeats 4000000 in
set_option maxRecDepth 100000 in
theorem kX7_areAlike (l : Launch) (n : Nat) (dC : Nat → ClassId) (dI : Nat → Nat → Nat) (cB cI cJ cZ : ClassId) (a : Nat → Nat) (adK adV : Nat → Nat) (sz : Nat) (ww_latestFault : Int32) (tp_bytes : Nat → Int32) (tp_size : Int32) (rd_fault : Int32) (rd_faultPlace : Int32) (rd_kind : Int32) (rd_start : Int32) (rd_at : Int32) (rd_number : Int32) (dr_letterMarks : Nat → Int32) (dr_names : Nat → Int64) (dr_spelled : Nat → Int32) (dr_rows : Nat → Int64) (dr_alike : Nat → Int32) (dr_near : Nat → Int32) (dr_asks : Nat → Int32) (dr_letters : Int32) (dr_words : Int32) (dr_askCount : Int32) (sh_lanes : Nat → Int32) (sh_sizes : Nat → Int32) (sh_cells : Nat → Int32) (la_xs : Nat → Int32) (la_ys : Nat → Int32) (la_heights : Nat → Int32) (la_ridgeXs : Nat → Int32) (la_ridgeHeights : Nat → Int32) (la_way : Nat → Int32) (la_blurs : Nat → Int32) (la_steps : Nat → Int32) (la_places : Int32) (la_ridges : Int32) (la_wayBlur : Int32) (la_wayLength : Int32) (bk_times : Nat → Int32) (bk_froms : Nat → Int32) (bk_asks : Nat → Int32) (bk_words : Nat → Int32) (bk_firsts : Nat → Int32) (bk_lies : Nat → Int32) (bk_held : Nat → Int32) (bk_size : Int32) (nu_learned : Nat → Int32) (nu_size : Int32) (to_letterMarks : Nat → Int32) (to_names : Nat → Int64) (to_spelled : Nat → Int32) (to_rows : Nat → Int64) (to_alike : Nat → Int32) (to_near : Nat → Int32) (to_asks : Nat → Int32) (to_letters : Int32) (to_words : Int32) (to_askCount : Int32) (x1 : Int32) (x2 : Int32) (x3 : Int32) (r0 : Int32) (h : fX7_areAlike n to_rows x1 x2 x3 = some r0) : Met l yX7_areAlike wsX7_areAlike ({ frames := 1, cells := 0, slots := 0, locals := 22 }) (gP (dC, dI) (tyz cB cI cJ cZ) (E_X adK adV) (wX cB cI cJ cZ a (a 35) (a 4) ww_latestFault tp_bytes tp_size rd_fault rd_faultPlace rd_kind rd_start rd_at rd_number dr_letterMarks dr_names dr_spelled dr_rows dr_alike dr_near dr_asks dr_letters dr_words dr_askCount sh_lanes sh_sizes sh_cells la_xs la_ys la_heights la_ridgeXs la_ridgeHeights la_way la_blurs la_steps la_places la_ridges la_wayBlur la_wayLength bk_times bk_froms bk_asks bk_words bk_firsts bk_lies bk_held bk_size nu_learned nu_size to_letterMarks to_names to_spelled to_rows to_alike to_near to_asks to_letters to_words to_askCount) sz [.ref (a 35), .int x1, .int x2, .int x3]) (gI (dC, dI) (tyz cB cI cJ cZ) (wX cB cI cJ cZ a (a 35) (a 4) ww_latestFault tp_bytes tp_size rd_fault rd_faultPlace rd_kind rd_start rd_at rd_number dr_letterMarks dr_names dr_spelled dr_rows dr_alike dr_near dr_asks dr_letters dr_words dr_askCount sh_lanes sh_sizes sh_cells la_xs la_ys la_heights la_ridgeXs la_ridgeHeights la_way la_blurs la_steps la_places la_ridges la_wayBlur la_wayLength bk_times bk_froms bk_asks bk_words bk_firsts bk_lies bk_held bk_size nu_learned nu_size to_letterMarks to_names to_spelled to_rows to_alike to_near to_asks to_letters to_words to_askCount) (va_A (wX cB cI cJ cZ a (a 35) (a 4) ww_latestFault tp_bytes tp_size rd_fault rd_faultPlace rd_kind rd_start rd_at rd_number dr_letterMarks dr_names dr_spelled dr_rows dr_alike dr_near dr_asks dr_letters dr_words dr_askCount sh_lanes sh_sizes sh_cells la_xs la_ys la_heights la_ridgeXs la_ridgeHeights la_way la_blurs la_steps la_places la_ridges la_wayBlur la_wayLength bk_times bk_froms bk_asks bk_words bk_firsts bk_lies bk_held bk_size nu_learned nu_size to_letterMarks to_names to_spelled to_rows to_alike to_near to_asks to_letters to_words to_askCount) sz) r0) 0 0 (va_A (wX cB cI cJ cZ a (a 35) (a 4) ww_latestFault tp_bytes tp_size rd_fault rd_faultPlace rd_kind rd_start rd_at rd_number dr_letterMarks dr_names dr_spelled dr_rows dr_alike dr_near dr_asks dr_letters dr_words dr_askCount sh_lanes sh_sizes sh_cells la_xs la_ys la_heights la_ridgeXs la_ridgeHeights la_way la_blurs la_steps la_places la_ridges la_wayBlur la_wayLength bk_times bk_froms bk_asks bk_words bk_firsts bk_lies bk_held bk_size nu_learned nu_size to_letterMarks to_names to_spelled to_rows to_alike to_near to_asks to_letters to_words to_askCount) sz) := by
  refine Met.ofW (cc := cX7_areAlike) (maxL := 4) (ret := (some .boolean)) (by decide) rfl ?_
  intro p e s m args below meth c s₁ B hml hv
  obtain ⟨rfl, hsz, hP, hK, hD0, hE⟩ := hv
  have hx := B.exec
  have hb := B.bytes
  have hr := B.returns
  have hts := atoms_spec (ws := wsX7_areAlike) B.pre
  have hown : s.vm.findClass RX7 = some m.cls := findClass_of_methodNamed B.named
  have hlocks := B.notSynchronized
  subst hsz
  have hD := hD0.self (sz := s.heap.size)
  have hA : ∀ q : Nat, s.heap.size ≤ q → va_A (wX cB cI cJ cZ a (a 35) (a 4) ww_latestFault tp_bytes tp_size rd_fault rd_faultPlace rd_kind rd_start rd_at rd_number dr_letterMarks dr_names dr_spelled dr_rows dr_alike dr_near dr_asks dr_letters dr_words dr_askCount sh_lanes sh_sizes sh_cells la_xs la_ys la_heights la_ridgeXs la_ridgeHeights la_way la_blurs la_steps la_places la_ridges la_wayBlur la_wayLength bk_times bk_froms bk_asks bk_words bk_firsts bk_lies bk_held bk_size nu_learned nu_size to_letterMarks to_names to_spelled to_rows to_alike to_near to_asks to_letters to_words to_askCount) s.heap.size q := fun q h => Or.inr h
  generalize va_A (wX cB cI cJ cZ a (a 35) (a 4) ww_latestFault tp_bytes tp_size rd_fault rd_faultPlace rd_kind rd_start rd_at rd_number dr_letterMarks dr_names dr_spelled dr_rows dr_alike dr_near dr_asks dr_letters dr_words dr_askCount sh_lanes sh_sizes sh_cells la_xs la_ys la_heights la_ridgeXs la_ridgeHeights la_way la_blurs la_steps la_places la_ridges la_wayBlur la_wayLength bk_times bk_froms bk_asks bk_words bk_firsts bk_lies bk_held bk_size nu_learned nu_size to_letterMarks to_names to_spelled to_rows to_alike to_near to_asks to_letters to_words to_askCount) s.heap.size = A at hD hA hE ⊢
  have hS : va_S A s.heap s.heap [] := va_S.rf
  have C0 : cxt cX7_areAlike (some .boolean) 4 RX7 wsX7_areAlike (dC, dI) (tyz cB cI cJ cZ) (E_X adK adV) A p s m ([.ref (a 35), .int x1, .int x2, .int x3] : List Value).toArray meth c := ⟨hx, hb, hr, hml, hown, hts, hlocks, hK, hA, hE⟩
  have hl := lv_entry ([.ref (a 35), .int x1, .int x2, .int x3]) (n := 4) (Nat.le_of_ble_eq_true rfl)
  rw [lg_entry_eq]
  generalize (lg_sl ([.ref (a 35), .int x1, .int x2, .int x3]) ++ List.replicate (4 - (lg_sl ([.ref (a 35), .int x1, .int x2, .int x3])).length) Slot.unset).toArray = ls at hl ⊢
  have hl : lv_has ls 4 [(0, .ref (a 35)), (1, .int x1), (2, .int x2), (3, .int x3)] := hl
  unfold fX7_areAlike at h
  refine lv_aload_n hx hb dX7_areAlike_0 rfl (lv_at hl 0 rfl) ?_
  refine lv_iload_n hx hb dX7_areAlike_1 rfl (lv_at hl 3 rfl) ?_
  refine lv_iload_n hx hb dX7_areAlike_2 rfl (lv_at hl 1 rfl) ?_
  obtain ⟨v1, hc, h⟩ := bd1_use h
  refine cv_l (As := [.int x3, .int x1]) (rest := []) ⟨hx, hb, hml, hown, hts⟩ (kX7_rowAt l n dC dI cB cI cJ cZ a adK adV _ ww_latestFault tp_bytes tp_size rd_fault rd_faultPlace rd_kind rd_start rd_at rd_number dr_letterMarks dr_names dr_spelled dr_rows dr_alike dr_near dr_asks dr_letters dr_words dr_askCount sh_lanes sh_sizes sh_cells la_xs la_ys la_heights la_ridgeXs la_ridgeHeights la_way la_blurs la_steps la_places la_ridges la_wayBlur la_wayLength bk_times bk_froms bk_asks bk_words bk_firsts bk_lies bk_held bk_size nu_learned nu_size to_letterMarks to_names to_spelled to_rows to_alike to_near to_asks to_letters to_words to_askCount x3 x1 v1 hc) (cwV 2 hts gX7_areAlike_X7_rowAt rfl rfl rfl (by decide +kernel) ⟨Nat.le_of_ble_eq_true rfl, Nat.le_of_ble_eq_true rfl⟩) EB_X hE hK hP hD hS hA 35 (ci := 6) rfl rfl rfl rfl hl.1 rfl (Nat.le_of_ble_eq_true rfl) dX7_areAlike_3 ⟨Nat.zero_le _, Nat.zero_le _⟩ (fun H locs hP hD hS => ?_)
  refine lv_aload_n hx hb dX7_areAlike_6 rfl (lv_at hl 0 rfl) ?_
  refine lv_iload_n hx hb dX7_areAlike_7 rfl (lv_at hl 3 rfl) ?_
  refine lv_iload_n hx hb dX7_areAlike_8 rfl (lv_at hl 2 rfl) ?_
  obtain ⟨v2, hc, h⟩ := bd1_use h
  refine cv_l (As := [.int x3, .int x2]) (rest := [.long v1]) ⟨hx, hb, hml, hown, hts⟩ (kX7_rowAt l n dC dI cB cI cJ cZ a adK adV _ ww_latestFault tp_bytes tp_size rd_fault rd_faultPlace rd_kind rd_start rd_at rd_number dr_letterMarks dr_names dr_spelled dr_rows dr_alike dr_near dr_asks dr_letters dr_words dr_askCount sh_lanes sh_sizes sh_cells la_xs la_ys la_heights la_ridgeXs la_ridgeHeights la_way la_blurs la_steps la_places la_ridges la_wayBlur la_wayLength bk_times bk_froms bk_asks bk_words bk_firsts bk_lies bk_held bk_size nu_learned nu_size to_letterMarks to_names to_spelled to_rows to_alike to_near to_asks to_letters to_words to_askCount x3 x2 v2 hc) (cwV 2 hts gX7_areAlike_X7_rowAt rfl rfl rfl (by decide +kernel) ⟨Nat.le_of_ble_eq_true rfl, Nat.le_of_ble_eq_true rfl⟩) EB_X hE hK hP hD hS hA 35 (ci := 6) rfl rfl rfl rfl hl.1 rfl (Nat.le_of_ble_eq_true rfl) dX7_areAlike_9 ⟨Nat.zero_le _, Nat.zero_le _⟩ (fun H locs hP hD hS => ?_)
  refine W.lcmp hx hb dX7_areAlike_12 ?_
  refine lv_if_ne (tgt := 20) hx hb dX7_areAlike_13 (by decide) (fun c3 => ?_) (fun c3 => ?_)
  · have h := ie_use c3 h
    refine lv_iconst (v := 0) hx hb dX7_areAlike_20 (by decide) ?_
    obtain er := rt1_use h
    exact re_z hx hb hr hlocks hK hP hD hS (Or.inl rfl) er dX7_areAlike_21
  · have h := it_use c3 h
    refine lv_iconst (v := 1) hx hb dX7_areAlike_16 (by decide) ?_
    refine lv_goto (tgt := 21) hx hb dX7_areAlike_17 (by decide) ?_
    obtain er := rt1_use h
    exact re_z hx hb hr hlocks hK hP hD hS (Or.inr rfl) er dX7_areAlike_21
set_option maxHeartbeats 4000000 in
set_option maxRecDepth 100000 in
theorem kX8_apart (l : Launch) (n : Nat) (dC : Nat → ClassId) (dI : Nat → Nat → Nat) (cB cI cJ cZ : ClassId) (a : Nat → Nat) (adK adV : Nat → Nat) (sz : Nat) (ww_latestFault : Int32) (tp_bytes : Nat → Int32) (tp_size : Int32) (rd_fault : Int32) (rd_faultPlace : Int32) (rd_kind : Int32) (rd_start : Int32) (rd_at : Int32) (rd_number : Int32) (dr_letterMarks : Nat → Int32) (dr_names : Nat → Int64) (dr_spelled : Nat → Int32) (dr_rows : Nat → Int64) (dr_alike : Nat → Int32) (dr_near : Nat → Int32) (dr_asks : Nat → Int32) (dr_letters : Int32) (dr_words : Int32) (dr_askCount : Int32) (sh_lanes : Nat → Int32) (sh_sizes : Nat → Int32) (sh_cells : Nat → Int32) (la_xs : Nat → Int32) (la_ys : Nat → Int32) (la_heights : Nat → Int32) (la_ridgeXs : Nat → Int32) (la_ridgeHeights : Nat → Int32) (la_way : Nat → Int32) (la_blurs : Nat → Int32) (la_steps : Nat → Int32) (la_places : Int32) (la_ridges : Int32) (la_wayBlur : Int32) (la_wayLength : Int32) (bk_times : Nat → Int32) (bk_froms : Nat → Int32) (bk_asks : Nat → Int32) (bk_words : Nat → Int32) (bk_firsts : Nat → Int32) (bk_lies : Nat → Int32) (bk_held : Nat → Int32) (bk_size : Int32) (nu_learned : Nat → Int32) (nu_size : Int32) (to_letterMarks : Nat → Int32) (to_names : Nat → Int64) (to_spelled : Nat → Int32) (to_rows : Nat → Int64) (to_alike : Nat → Int32) (to_near : Nat → Int32) (to_asks : Nat → Int32) (to_letters : Int32) (to_words : Int32) (to_askCount : Int32) (x1 : Int32) (x2 : Int32) (x3 : Int32) (r0 : Int32) (h : fX8_apart n to_rows to_words x1 x2 x3 = some r0) : Met l yX8_apart wsX8_apart ({ frames := 2, cells := 0, slots := 0, locals := 45 }) (gP (dC, dI) (tyz cB cI cJ cZ) (E_X adK adV) (wX cB cI cJ cZ a (a 35) (a 4) ww_latestFault tp_bytes tp_size rd_fault rd_faultPlace rd_kind rd_start rd_at rd_number dr_letterMarks dr_names dr_spelled dr_rows dr_alike dr_near dr_asks dr_letters dr_words dr_askCount sh_lanes sh_sizes sh_cells la_xs la_ys la_heights la_ridgeXs la_ridgeHeights la_way la_blurs la_steps la_places la_ridges la_wayBlur la_wayLength bk_times bk_froms bk_asks bk_words bk_firsts bk_lies bk_held bk_size nu_learned nu_size to_letterMarks to_names to_spelled to_rows to_alike to_near to_asks to_letters to_words to_askCount) sz [.ref (a 0), .int x1, .int x2, .int x3]) (gI (dC, dI) (tyz cB cI cJ cZ) (wX cB cI cJ cZ a (a 35) (a 4) ww_latestFault tp_bytes tp_size rd_fault rd_faultPlace rd_kind rd_start rd_at rd_number dr_letterMarks dr_names dr_spelled dr_rows dr_alike dr_near dr_asks dr_letters dr_words dr_askCount sh_lanes sh_sizes sh_cells la_xs la_ys la_heights la_ridgeXs la_ridgeHeights la_way la_blurs la_steps la_places la_ridges la_wayBlur la_wayLength bk_times bk_froms bk_asks bk_words bk_firsts bk_lies bk_held bk_size nu_learned nu_size to_letterMarks to_names to_spelled to_rows to_alike to_near to_asks to_letters to_words to_askCount) (va_A (wX cB cI cJ cZ a (a 35) (a 4) ww_latestFault tp_bytes tp_size rd_fault rd_faultPlace rd_kind rd_start rd_at rd_number dr_letterMarks dr_names dr_spelled dr_rows dr_alike dr_near dr_asks dr_letters dr_words dr_askCount sh_lanes sh_sizes sh_cells la_xs la_ys la_heights la_ridgeXs la_ridgeHeights la_way la_blurs la_steps la_places la_ridges la_wayBlur la_wayLength bk_times bk_froms bk_asks bk_words bk_firsts bk_lies bk_held bk_size nu_learned nu_size to_letterMarks to_names to_spelled to_rows to_alike to_near to_asks to_letters to_words to_askCount) sz) r0) 0 0 (va_A (wX cB cI cJ cZ a (a 35) (a 4) ww_latestFault tp_bytes tp_size rd_fault rd_faultPlace rd_kind rd_start rd_at rd_number dr_letterMarks dr_names dr_spelled dr_rows dr_alike dr_near dr_asks dr_letters dr_words dr_askCount sh_lanes sh_sizes sh_cells la_xs la_ys la_heights la_ridgeXs la_ridgeHeights la_way la_blurs la_steps la_places la_ridges la_wayBlur la_wayLength bk_times bk_froms bk_asks bk_words bk_firsts bk_lies bk_held bk_size nu_learned nu_size to_letterMarks to_names to_spelled to_rows to_alike to_near to_asks to_letters to_words to_askCount) sz) := by
  refine Met.ofW (cc := cX8_apart) (maxL := 4) (ret := (some .int)) (by decide) rfl ?_
  intro p e s m args below meth c s₁ B hml hv
  obtain ⟨rfl, hsz, hP, hK, hD0, hE⟩ := hv
  have hx := B.exec
  have hb := B.bytes
  have hr := B.returns
  have hts := atoms_spec (ws := wsX8_apart) B.pre
  have hown : s.vm.findClass RX8 = some m.cls := findClass_of_methodNamed B.named
  have hlocks := B.notSynchronized
  subst hsz
  have hD := hD0.self (sz := s.heap.size)
  have hA : ∀ q : Nat, s.heap.size ≤ q → va_A (wX cB cI cJ cZ a (a 35) (a 4) ww_latestFault tp_bytes tp_size rd_fault rd_faultPlace rd_kind rd_start rd_at rd_number dr_letterMarks dr_names dr_spelled dr_rows dr_alike dr_near dr_asks dr_letters dr_words dr_askCount sh_lanes sh_sizes sh_cells la_xs la_ys la_heights la_ridgeXs la_ridgeHeights la_way la_blurs la_steps la_places la_ridges la_wayBlur la_wayLength bk_times bk_froms bk_asks bk_words bk_firsts bk_lies bk_held bk_size nu_learned nu_size to_letterMarks to_names to_spelled to_rows to_alike to_near to_asks to_letters to_words to_askCount) s.heap.size q := fun q h => Or.inr h
  generalize va_A (wX cB cI cJ cZ a (a 35) (a 4) ww_latestFault tp_bytes tp_size rd_fault rd_faultPlace rd_kind rd_start rd_at rd_number dr_letterMarks dr_names dr_spelled dr_rows dr_alike dr_near dr_asks dr_letters dr_words dr_askCount sh_lanes sh_sizes sh_cells la_xs la_ys la_heights la_ridgeXs la_ridgeHeights la_way la_blurs la_steps la_places la_ridges la_wayBlur la_wayLength bk_times bk_froms bk_asks bk_words bk_firsts bk_lies bk_held bk_size nu_learned nu_size to_letterMarks to_names to_spelled to_rows to_alike to_near to_asks to_letters to_words to_askCount) s.heap.size = A at hD hA hE ⊢
  have hS : va_S A s.heap s.heap [] := va_S.rf
  have C0 : cxt cX8_apart (some .int) 4 RX8 wsX8_apart (dC, dI) (tyz cB cI cJ cZ) (E_X adK adV) A p s m ([.ref (a 0), .int x1, .int x2, .int x3] : List Value).toArray meth c := ⟨hx, hb, hr, hml, hown, hts, hlocks, hK, hA, hE⟩
  have hl := lv_entry ([.ref (a 0), .int x1, .int x2, .int x3]) (n := 4) (Nat.le_of_ble_eq_true rfl)
  rw [lg_entry_eq]
  generalize (lg_sl ([.ref (a 0), .int x1, .int x2, .int x3]) ++ List.replicate (4 - (lg_sl ([.ref (a 0), .int x1, .int x2, .int x3])).length) Slot.unset).toArray = ls at hl ⊢
  have hl : lv_has ls 4 [(0, .ref (a 0)), (1, .int x1), (2, .int x2), (3, .int x3)] := hl
  have hw0 := hts (.fieldLink RX8 60 "WhistledWords" "told" "LWhistledWords$Tongue;") (by decide +kernel)
  have hnX8 : ∀ w ∈ u_ws RX8 TX8 8, w ∈ wsX8_apart := fun _ h => List.mem_cons_of_mem _ (List.mem_append_left _ (List.mem_append_right _ h))
  unfold fX8_apart at h
  refine lv_aload_n hx hb dX8_apart_0 rfl (lv_at hl 0 rfl) ?_
  refine gX_ww_told hx hb hts hnX8 hown hK hP hw0 dX8_apart_1 ?_
  refine lv_iload_n hx hb dX8_apart_4 rfl (lv_at hl 1 rfl) ?_
  obtain ⟨v1, hc, h⟩ := bd1_use h
  refine cv_i (As := [.int x1]) (rest := []) ⟨hx, hb, hml, hown, hts⟩ (kX7_isWord l n dC dI cB cI cJ cZ a adK adV _ ww_latestFault tp_bytes tp_size rd_fault rd_faultPlace rd_kind rd_start rd_at rd_number dr_letterMarks dr_names dr_spelled dr_rows dr_alike dr_near dr_asks dr_letters dr_words dr_askCount sh_lanes sh_sizes sh_cells la_xs la_ys la_heights la_ridgeXs la_ridgeHeights la_way la_blurs la_steps la_places la_ridges la_wayBlur la_wayLength bk_times bk_froms bk_asks bk_words bk_firsts bk_lies bk_held bk_size nu_learned nu_size to_letterMarks to_names to_spelled to_rows to_alike to_near to_asks to_letters to_words to_askCount x1 v1 hc) (cwV 1 hts gX8_apart_X7_isWord rfl rfl rfl (by decide +kernel) ⟨Nat.le_of_ble_eq_true rfl, Nat.le_of_ble_eq_true rfl⟩) EB_X hE hK hP hD hS hA 35 (ci := 6) rfl rfl rfl rfl hl.1 rfl (Nat.le_of_ble_eq_true rfl) dX8_apart_5 ⟨Nat.zero_le _, Nat.zero_le _⟩ (fun H locs hP hD hS => ?_)
  refine lv_if_eq (tgt := 29) hx hb dX8_apart_8 (by decide) (fun c2 => ?_) (fun c2 => ?_)
  · have h := it_use c2 h
    refine lv_iconst (v := -1) hx hb dX8_apart_29 (by decide) ?_
    obtain er := rt1_use h
    exact re_i hx hb hr hlocks hK hP hD hS er dX8_apart_30
  · have h := ie_use c2 h
    refine lv_aload_n hx hb dX8_apart_11 rfl (lv_at hl 0 rfl) ?_
    refine gX_ww_told hx hb hts hnX8 hown hK hP hw0 dX8_apart_12 ?_
    refine lv_iload_n hx hb dX8_apart_15 rfl (lv_at hl 2 rfl) ?_
    obtain ⟨v3, hc, h⟩ := bd1_use h
    refine cv_i (As := [.int x2]) (rest := []) ⟨hx, hb, hml, hown, hts⟩ (kX7_isWord l n dC dI cB cI cJ cZ a adK adV _ ww_latestFault tp_bytes tp_size rd_fault rd_faultPlace rd_kind rd_start rd_at rd_number dr_letterMarks dr_names dr_spelled dr_rows dr_alike dr_near dr_asks dr_letters dr_words dr_askCount sh_lanes sh_sizes sh_cells la_xs la_ys la_heights la_ridgeXs la_ridgeHeights la_way la_blurs la_steps la_places la_ridges la_wayBlur la_wayLength bk_times bk_froms bk_asks bk_words bk_firsts bk_lies bk_held bk_size nu_learned nu_size to_letterMarks to_names to_spelled to_rows to_alike to_near to_asks to_letters to_words to_askCount x2 v3 hc) (cwV 1 hts gX8_apart_X7_isWord rfl rfl rfl (by decide +kernel) ⟨Nat.le_of_ble_eq_true rfl, Nat.le_of_ble_eq_true rfl⟩) EB_X hE hK hP hD hS hA 35 (ci := 6) rfl rfl rfl rfl hl.1 rfl (Nat.le_of_ble_eq_true rfl) dX8_apart_16 ⟨Nat.zero_le _, Nat.zero_le _⟩ (fun H locs hP hD hS => ?_)
    refine lv_if_eq (tgt := 29) hx hb dX8_apart_19 (by decide) (fun c4 => ?_) (fun c4 => ?_)
    · have h := it_use c4 h
      refine lv_iconst (v := -1) hx hb dX8_apart_29 (by decide) ?_
      obtain er := rt1_use h
      exact re_i hx hb hr hlocks hK hP hD hS er dX8_apart_30
    · have h := ie_use c4 h
      refine lv_iload_n hx hb dX8_apart_22 rfl (lv_at hl 3 rfl) ?_
      obtain ⟨v5, hc, h⟩ := bd1_use h
      refine cs_i (As := [.int x3]) (rest := []) ⟨hx, hb, hml, hown, hts⟩ (kX8_isBlur l n x3 v5 hc) (va_cwS 1 hts gX8_apart_X8_isBlur rfl rfl rfl (by decide +kernel) ⟨Nat.le_of_ble_eq_true rfl, Nat.le_of_ble_eq_true rfl⟩) hP hS rfl hl.1 rfl (Nat.le_of_ble_eq_true rfl) dX8_apart_23 ⟨Nat.zero_le _, Nat.zero_le _⟩ (fun H locs hP hS => ?_)
      refine lv_if_ne (tgt := 31) hx hb dX8_apart_26 (by decide) (fun c6 => ?_) (fun c6 => ?_)
      · have h := ie_use c6 h
        refine lv_aload_n hx hb dX8_apart_31 rfl (lv_at hl 0 rfl) ?_
        refine gX_ww_told hx hb hts hnX8 hown hK hP hw0 dX8_apart_32 ?_
        refine lv_iload_n hx hb dX8_apart_35 rfl (lv_at hl 1 rfl) ?_
        refine lv_iload_n hx hb dX8_apart_36 rfl (lv_at hl 2 rfl) ?_
        refine lv_iload_n hx hb dX8_apart_37 rfl (lv_at hl 3 rfl) ?_
        obtain ⟨v7, hc, h⟩ := bd1_use h
        refine cv_i (As := [.int x1, .int x2, .int x3]) (rest := []) ⟨hx, hb, hml, hown, hts⟩ (kX7_areAlike l n dC dI cB cI cJ cZ a adK adV _ ww_latestFault tp_bytes tp_size rd_fault rd_faultPlace rd_kind rd_start rd_at rd_number dr_letterMarks dr_names dr_spelled dr_rows dr_alike dr_near dr_asks dr_letters dr_words dr_askCount sh_lanes sh_sizes sh_cells la_xs la_ys la_heights la_ridgeXs la_ridgeHeights la_way la_blurs la_steps la_places la_ridges la_wayBlur la_wayLength bk_times bk_froms bk_asks bk_words bk_firsts bk_lies bk_held bk_size nu_learned nu_size to_letterMarks to_names to_spelled to_rows to_alike to_near to_asks to_letters to_words to_askCount x1 x2 x3 v7 hc) (cwV 3 hts gX8_apart_X7_areAlike rfl rfl rfl (by decide +kernel) ⟨Nat.le_of_ble_eq_true rfl, Nat.le_of_ble_eq_true rfl⟩) EB_X hE hK hP hD hS hA 35 (ci := 6) rfl rfl rfl rfl hl.1 rfl (Nat.le_of_ble_eq_true rfl) dX8_apart_38 ⟨Nat.zero_le _, Nat.zero_le _⟩ (fun H locs hP hD hS => ?_)
        refine lv_if_eq (tgt := 48) hx hb dX8_apart_41 (by decide) (fun c8 => ?_) (fun c8 => ?_)
        · have h := it_use c8 h
          refine lv_iconst (v := 1) hx hb dX8_apart_48 (by decide) ?_
          obtain er := rt1_use h
          exact re_i hx hb hr hlocks hK hP hD hS er dX8_apart_49
        · have h := ie_use c8 h
          refine lv_iconst (v := 0) hx hb dX8_apart_44 (by decide) ?_
          refine lv_goto (tgt := 49) hx hb dX8_apart_45 (by decide) ?_
          obtain er := rt1_use h
          exact re_i hx hb hr hlocks hK hP hD hS er dX8_apart_49
      · have h := it_use c6 h
        refine lv_iconst (v := -1) hx hb dX8_apart_29 (by decide) ?_
        obtain er := rt1_use h
        exact re_i hx hb hr hlocks hK hP hD hS er dX8_apart_30
set_option maxHeartbeats 4000000 in
set_option maxRecDepth 100000 in
theorem kX8_until_p26_r {p : Program} {l : Launch} {e : Env} {s : State} {m : MethodId} {args : Array Value} {below : List Frame} {meth : Method} {c : Code} {A : Nat → Prop} (dC : Nat → ClassId) (dI : Nat → Nat → Nat) (cB cI cJ cZ : ClassId) (a : Nat → Nat) (adK adV : Nat → Nat) (C0 : cxt cX8_until (some .int) 4 RX8 wsX8_until (dC, dI) (tyz cB cI cJ cZ) (E_X adK adV) A p s m args meth c) (n : Nat) (ww_latestFault : Int32) (tp_bytes : Nat → Int32) (tp_size : Int32) (rd_fault : Int32) (rd_faultPlace : Int32) (rd_kind : Int32) (rd_start : Int32) (rd_at : Int32) (rd_number : Int32) (dr_letterMarks : Nat → Int32) (dr_names : Nat → Int64) (dr_spelled : Nat → Int32) (dr_rows : Nat → Int64) (dr_alike : Nat → Int32) (dr_near : Nat → Int32) (dr_asks : Nat → Int32) (dr_letters : Int32) (dr_words : Int32) (dr_askCount : Int32) (sh_lanes : Nat → Int32) (sh_sizes : Nat → Int32) (sh_cells : Nat → Int32) (la_xs : Nat → Int32) (la_ys : Nat → Int32) (la_heights : Nat → Int32) (la_ridgeXs : Nat → Int32) (la_ridgeHeights : Nat → Int32) (la_way : Nat → Int32) (la_blurs : Nat → Int32) (la_steps : Nat → Int32) (la_places : Int32) (la_ridges : Int32) (la_wayBlur : Int32) (la_wayLength : Int32) (bk_times : Nat → Int32) (bk_froms : Nat → Int32) (bk_asks : Nat → Int32) (bk_words : Nat → Int32) (bk_firsts : Nat → Int32) (bk_lies : Nat → Int32) (bk_held : Nat → Int32) (bk_size : Int32) (nu_learned : Nat → Int32) (nu_size : Int32) (to_letterMarks : Nat → Int32) (to_names : Nat → Int64) (to_spelled : Nat → Int32) (to_rows : Nat → Int64) (to_alike : Nat → Int32) (to_near : Nat → Int32) (to_asks : Nat → Int32) (to_letters : Int32) (to_words : Int32) (to_askCount : Int32) (x1 : Int32) (x2 : Int32) (r0 : Int32)  : ∀ (k : Nat) (x3 : Int32) (H : Heap) (locs : List Loc) (ls : Array Slot), fX8_until_p26 n to_rows x1 x2 k x3 = some r0 → va_P (dC, dI) vwCl (wX cB cI cJ cZ a (a 35) (a 4) ww_latestFault tp_bytes tp_size rd_fault rd_faultPlace rd_kind rd_start rd_at rd_number dr_letterMarks dr_names dr_spelled dr_rows dr_alike dr_near dr_asks dr_letters dr_words dr_askCount sh_lanes sh_sizes sh_cells la_xs la_ys la_heights la_ridgeXs la_ridgeHeights la_way la_blurs la_steps la_places la_ridges la_wayBlur la_wayLength bk_times bk_froms bk_asks bk_words bk_firsts bk_lies bk_held bk_size nu_learned nu_size to_letterMarks to_names to_spelled to_rows to_alike to_near to_asks to_letters to_words to_askCount) H → va_D A (wX cB cI cJ cZ a (a 35) (a 4) ww_latestFault tp_bytes tp_size rd_fault rd_faultPlace rd_kind rd_start rd_at rd_number dr_letterMarks dr_names dr_spelled dr_rows dr_alike dr_near dr_asks dr_letters dr_words dr_askCount sh_lanes sh_sizes sh_cells la_xs la_ys la_heights la_ridgeXs la_ridgeHeights la_way la_blurs la_steps la_places la_ridges la_wayBlur la_wayLength bk_times bk_froms bk_asks bk_words bk_firsts bk_lies bk_held bk_size nu_learned nu_size to_letterMarks to_names to_spelled to_rows to_alike to_near to_asks to_letters to_words to_askCount) → va_S A s.heap H locs → lv_has ls 4 [(0, .ref (a 0)), (1, .int x1), (2, .int x2), (3, .int x3)] → W p l e { frames := 2, cells := 0, slots := 0, locals := 45 } s m args below meth c H locs 0 0 (MQ below (gI (dC, dI) (tyz cB cI cJ cZ) (wX cB cI cJ cZ a (a 35) (a 4) ww_latestFault tp_bytes tp_size rd_fault rd_faultPlace rd_kind rd_start rd_at rd_number dr_letterMarks dr_names dr_spelled dr_rows dr_alike dr_near dr_asks dr_letters dr_words dr_askCount sh_lanes sh_sizes sh_cells la_xs la_ys la_heights la_ridgeXs la_ridgeHeights la_way la_blurs la_steps la_places la_ridges la_wayBlur la_wayLength bk_times bk_froms bk_asks bk_words bk_firsts bk_lies bk_held bk_size nu_learned nu_size to_letterMarks to_names to_spelled to_rows to_alike to_near to_asks to_letters to_words to_askCount) A r0) args s 0 0 A) (F0 m 26 ls []) := by
  obtain ⟨hx, hb, hr, hml, hown, hts, hlocks, hK, hA, hE⟩ := id C0
  have hw0 := hts (.fieldLink RX8 60 "WhistledWords" "told" "LWhistledWords$Tongue;") (by decide +kernel)
  have hnX8 : ∀ w ∈ u_ws RX8 TX8 8, w ∈ wsX8_until := fun _ h => List.mem_cons_of_mem _ (List.mem_append_left _ (List.mem_append_right _ h))
  intro k
  induction k with
  | zero =>
    intro x3 H locs ls h
    cases h
  | succ k ih =>
    intro x3 H locs ls h hP hD hS hl
    rw [fX8_until_p26] at h
    refine lv_iload_n hx hb dX8_until_26 rfl (lv_at hl 3 rfl) ?_
    refine lv_bipush (v := 6) hx hb dX8_until_27 (by decide) ?_
    refine lv_icmp_ge (tgt := 53) hx hb dX8_until_29 (by decide) (fun c1 => ?_) (fun c1 => ?_)
    · have h := it_use c1 h
      refine lv_bipush (v := -4) hx hb dX8_until_53 (by decide) ?_
      obtain er := rt1_use h
      exact re_i hx hb hr hlocks hK hP hD hS er dX8_until_55
    · have h := ie_use c1 h
      refine lv_aload_n hx hb dX8_until_32 rfl (lv_at hl 0 rfl) ?_
      refine gX_ww_told hx hb hts hnX8 hown hK hP hw0 dX8_until_33 ?_
      refine lv_iload_n hx hb dX8_until_36 rfl (lv_at hl 1 rfl) ?_
      refine lv_iload_n hx hb dX8_until_37 rfl (lv_at hl 2 rfl) ?_
      refine lv_iload_n hx hb dX8_until_38 rfl (lv_at hl 3 rfl) ?_
      obtain ⟨v2, hc, h⟩ := bd1_use h
      refine cv_i (As := [.int x1, .int x2, .int x3]) (rest := []) ⟨hx, hb, hml, hown, hts⟩ (kX7_areAlike l n dC dI cB cI cJ cZ a adK adV _ ww_latestFault tp_bytes tp_size rd_fault rd_faultPlace rd_kind rd_start rd_at rd_number dr_letterMarks dr_names dr_spelled dr_rows dr_alike dr_near dr_asks dr_letters dr_words dr_askCount sh_lanes sh_sizes sh_cells la_xs la_ys la_heights la_ridgeXs la_ridgeHeights la_way la_blurs la_steps la_places la_ridges la_wayBlur la_wayLength bk_times bk_froms bk_asks bk_words bk_firsts bk_lies bk_held bk_size nu_learned nu_size to_letterMarks to_names to_spelled to_rows to_alike to_near to_asks to_letters to_words to_askCount x1 x2 x3 v2 hc) (cwV 3 hts gX8_until_X7_areAlike rfl rfl rfl (by decide +kernel) ⟨Nat.le_of_ble_eq_true rfl, Nat.le_of_ble_eq_true rfl⟩) EB_X hE hK hP hD hS hA 35 (ci := 6) rfl rfl rfl rfl hl.1 rfl (Nat.le_of_ble_eq_true rfl) dX8_until_39 ⟨Nat.zero_le _, Nat.zero_le _⟩ (fun H locs hP hD hS => ?_)
      refine lv_if_eq (tgt := 47) hx hb dX8_until_42 (by decide) (fun c3 => ?_) (fun c3 => ?_)
      · have h := it_use c3 h
        refine lv_iinc (v := x3 + 1) (lv' := [(3, .int (x3 + 1)), (0, .ref (a 0)), (1, .int x1), (2, .int x2)]) hx hb dX8_until_47 hl (k := 3) rfl rfl (by decide) rfl (fun ls hl => ?_)
        refine lv_goto (tgt := 26) hx hb dX8_until_50 (by decide) ?_
        exact ih (x3 + 1) _ _ ls h hP hD hS (lv_sub hl [1, 2, 3, 0] rfl)
      · have h := ie_use c3 h
        refine lv_iload_n hx hb dX8_until_45 rfl (lv_at hl 3 rfl) ?_
        obtain er := rt1_use h
        exact re_i hx hb hr hlocks hK hP hD hS er dX8_until_46
theorem kX8_until_p26 {p : Program} {l : Launch} {e : Env} {s : State} {m : MethodId} {args : Array Value} {below : List Frame} {meth : Method} {c : Code} {A : Nat → Prop} (dC : Nat → ClassId) (dI : Nat → Nat → Nat) (cB cI cJ cZ : ClassId) (a : Nat → Nat) (adK adV : Nat → Nat) (C0 : cxt cX8_until (some .int) 4 RX8 wsX8_until (dC, dI) (tyz cB cI cJ cZ) (E_X adK adV) A p s m args meth c) (n : Nat) (ww_latestFault : Int32) (tp_bytes : Nat → Int32) (tp_size : Int32) (rd_fault : Int32) (rd_faultPlace : Int32) (rd_kind : Int32) (rd_start : Int32) (rd_at : Int32) (rd_number : Int32) (dr_letterMarks : Nat → Int32) (dr_names : Nat → Int64) (dr_spelled : Nat → Int32) (dr_rows : Nat → Int64) (dr_alike : Nat → Int32) (dr_near : Nat → Int32) (dr_asks : Nat → Int32) (dr_letters : Int32) (dr_words : Int32) (dr_askCount : Int32) (sh_lanes : Nat → Int32) (sh_sizes : Nat → Int32) (sh_cells : Nat → Int32) (la_xs : Nat → Int32) (la_ys : Nat → Int32) (la_heights : Nat → Int32) (la_ridgeXs : Nat → Int32) (la_ridgeHeights : Nat → Int32) (la_way : Nat → Int32) (la_blurs : Nat → Int32) (la_steps : Nat → Int32) (la_places : Int32) (la_ridges : Int32) (la_wayBlur : Int32) (la_wayLength : Int32) (bk_times : Nat → Int32) (bk_froms : Nat → Int32) (bk_asks : Nat → Int32) (bk_words : Nat → Int32) (bk_firsts : Nat → Int32) (bk_lies : Nat → Int32) (bk_held : Nat → Int32) (bk_size : Int32) (nu_learned : Nat → Int32) (nu_size : Int32) (to_letterMarks : Nat → Int32) (to_names : Nat → Int64) (to_spelled : Nat → Int32) (to_rows : Nat → Int64) (to_alike : Nat → Int32) (to_near : Nat → Int32) (to_asks : Nat → Int32) (to_letters : Int32) (to_words : Int32) (to_askCount : Int32)  (x1 : Int32) (x2 : Int32) (x3 : Int32) (r0 : Int32)  (k : Nat) (H : Heap) (locs : List Loc) (ls : Array Slot) : fX8_until_p26 n to_rows x1 x2 k x3 = some r0 → va_P (dC, dI) vwCl (wX cB cI cJ cZ a (a 35) (a 4) ww_latestFault tp_bytes tp_size rd_fault rd_faultPlace rd_kind rd_start rd_at rd_number dr_letterMarks dr_names dr_spelled dr_rows dr_alike dr_near dr_asks dr_letters dr_words dr_askCount sh_lanes sh_sizes sh_cells la_xs la_ys la_heights la_ridgeXs la_ridgeHeights la_way la_blurs la_steps la_places la_ridges la_wayBlur la_wayLength bk_times bk_froms bk_asks bk_words bk_firsts bk_lies bk_held bk_size nu_learned nu_size to_letterMarks to_names to_spelled to_rows to_alike to_near to_asks to_letters to_words to_askCount) H → va_D A (wX cB cI cJ cZ a (a 35) (a 4) ww_latestFault tp_bytes tp_size rd_fault rd_faultPlace rd_kind rd_start rd_at rd_number dr_letterMarks dr_names dr_spelled dr_rows dr_alike dr_near dr_asks dr_letters dr_words dr_askCount sh_lanes sh_sizes sh_cells la_xs la_ys la_heights la_ridgeXs la_ridgeHeights la_way la_blurs la_steps la_places la_ridges la_wayBlur la_wayLength bk_times bk_froms bk_asks bk_words bk_firsts bk_lies bk_held bk_size nu_learned nu_size to_letterMarks to_names to_spelled to_rows to_alike to_near to_asks to_letters to_words to_askCount) → va_S A s.heap H locs → lv_has ls 4 [(0, .ref (a 0)), (1, .int x1), (2, .int x2), (3, .int x3)] → W p l e { frames := 2, cells := 0, slots := 0, locals := 45 } s m args below meth c H locs 0 0 (MQ below (gI (dC, dI) (tyz cB cI cJ cZ) (wX cB cI cJ cZ a (a 35) (a 4) ww_latestFault tp_bytes tp_size rd_fault rd_faultPlace rd_kind rd_start rd_at rd_number dr_letterMarks dr_names dr_spelled dr_rows dr_alike dr_near dr_asks dr_letters dr_words dr_askCount sh_lanes sh_sizes sh_cells la_xs la_ys la_heights la_ridgeXs la_ridgeHeights la_way la_blurs la_steps la_places la_ridges la_wayBlur la_wayLength bk_times bk_froms bk_asks bk_words bk_firsts bk_lies bk_held bk_size nu_learned nu_size to_letterMarks to_names to_spelled to_rows to_alike to_near to_asks to_letters to_words to_askCount) A r0) args s 0 0 A) (F0 m 26 ls []) :=
  kX8_until_p26_r dC dI cB cI cJ cZ a adK adV C0 n ww_latestFault tp_bytes tp_size rd_fault rd_faultPlace rd_kind rd_start rd_at rd_number dr_letterMarks dr_names dr_spelled dr_rows dr_alike dr_near dr_asks dr_letters dr_words dr_askCount sh_lanes sh_sizes sh_cells la_xs la_ys la_heights la_ridgeXs la_ridgeHeights la_way la_blurs la_steps la_places la_ridges la_wayBlur la_wayLength bk_times bk_froms bk_asks bk_words bk_firsts bk_lies bk_held bk_size nu_learned nu_size to_letterMarks to_names to_spelled to_rows to_alike to_near to_asks to_letters to_words to_askCount x1 x2 r0  k x3 H locs ls
set_option maxHeartbeats 4000000 in
set_option maxRecDepth 100000 in
theorem kX8_until (l : Launch) (n : Nat) (dC : Nat → ClassId) (dI : Nat → Nat → Nat) (cB cI cJ cZ : ClassId) (a : Nat → Nat) (adK adV : Nat → Nat) (sz : Nat) (ww_latestFault : Int32) (tp_bytes : Nat → Int32) (tp_size : Int32) (rd_fault : Int32) (rd_faultPlace : Int32) (rd_kind : Int32) (rd_start : Int32) (rd_at : Int32) (rd_number : Int32) (dr_letterMarks : Nat → Int32) (dr_names : Nat → Int64) (dr_spelled : Nat → Int32) (dr_rows : Nat → Int64) (dr_alike : Nat → Int32) (dr_near : Nat → Int32) (dr_asks : Nat → Int32) (dr_letters : Int32) (dr_words : Int32) (dr_askCount : Int32) (sh_lanes : Nat → Int32) (sh_sizes : Nat → Int32) (sh_cells : Nat → Int32) (la_xs : Nat → Int32) (la_ys : Nat → Int32) (la_heights : Nat → Int32) (la_ridgeXs : Nat → Int32) (la_ridgeHeights : Nat → Int32) (la_way : Nat → Int32) (la_blurs : Nat → Int32) (la_steps : Nat → Int32) (la_places : Int32) (la_ridges : Int32) (la_wayBlur : Int32) (la_wayLength : Int32) (bk_times : Nat → Int32) (bk_froms : Nat → Int32) (bk_asks : Nat → Int32) (bk_words : Nat → Int32) (bk_firsts : Nat → Int32) (bk_lies : Nat → Int32) (bk_held : Nat → Int32) (bk_size : Int32) (nu_learned : Nat → Int32) (nu_size : Int32) (to_letterMarks : Nat → Int32) (to_names : Nat → Int64) (to_spelled : Nat → Int32) (to_rows : Nat → Int64) (to_alike : Nat → Int32) (to_near : Nat → Int32) (to_asks : Nat → Int32) (to_letters : Int32) (to_words : Int32) (to_askCount : Int32) (x1 : Int32) (x2 : Int32) (r0 : Int32) (h : fX8_until n to_rows to_words x1 x2 = some r0) : Met l yX8_until wsX8_until ({ frames := 2, cells := 0, slots := 0, locals := 45 }) (gP (dC, dI) (tyz cB cI cJ cZ) (E_X adK adV) (wX cB cI cJ cZ a (a 35) (a 4) ww_latestFault tp_bytes tp_size rd_fault rd_faultPlace rd_kind rd_start rd_at rd_number dr_letterMarks dr_names dr_spelled dr_rows dr_alike dr_near dr_asks dr_letters dr_words dr_askCount sh_lanes sh_sizes sh_cells la_xs la_ys la_heights la_ridgeXs la_ridgeHeights la_way la_blurs la_steps la_places la_ridges la_wayBlur la_wayLength bk_times bk_froms bk_asks bk_words bk_firsts bk_lies bk_held bk_size nu_learned nu_size to_letterMarks to_names to_spelled to_rows to_alike to_near to_asks to_letters to_words to_askCount) sz [.ref (a 0), .int x1, .int x2]) (gI (dC, dI) (tyz cB cI cJ cZ) (wX cB cI cJ cZ a (a 35) (a 4) ww_latestFault tp_bytes tp_size rd_fault rd_faultPlace rd_kind rd_start rd_at rd_number dr_letterMarks dr_names dr_spelled dr_rows dr_alike dr_near dr_asks dr_letters dr_words dr_askCount sh_lanes sh_sizes sh_cells la_xs la_ys la_heights la_ridgeXs la_ridgeHeights la_way la_blurs la_steps la_places la_ridges la_wayBlur la_wayLength bk_times bk_froms bk_asks bk_words bk_firsts bk_lies bk_held bk_size nu_learned nu_size to_letterMarks to_names to_spelled to_rows to_alike to_near to_asks to_letters to_words to_askCount) (va_A (wX cB cI cJ cZ a (a 35) (a 4) ww_latestFault tp_bytes tp_size rd_fault rd_faultPlace rd_kind rd_start rd_at rd_number dr_letterMarks dr_names dr_spelled dr_rows dr_alike dr_near dr_asks dr_letters dr_words dr_askCount sh_lanes sh_sizes sh_cells la_xs la_ys la_heights la_ridgeXs la_ridgeHeights la_way la_blurs la_steps la_places la_ridges la_wayBlur la_wayLength bk_times bk_froms bk_asks bk_words bk_firsts bk_lies bk_held bk_size nu_learned nu_size to_letterMarks to_names to_spelled to_rows to_alike to_near to_asks to_letters to_words to_askCount) sz) r0) 0 0 (va_A (wX cB cI cJ cZ a (a 35) (a 4) ww_latestFault tp_bytes tp_size rd_fault rd_faultPlace rd_kind rd_start rd_at rd_number dr_letterMarks dr_names dr_spelled dr_rows dr_alike dr_near dr_asks dr_letters dr_words dr_askCount sh_lanes sh_sizes sh_cells la_xs la_ys la_heights la_ridgeXs la_ridgeHeights la_way la_blurs la_steps la_places la_ridges la_wayBlur la_wayLength bk_times bk_froms bk_asks bk_words bk_firsts bk_lies bk_held bk_size nu_learned nu_size to_letterMarks to_names to_spelled to_rows to_alike to_near to_asks to_letters to_words to_askCount) sz) := by
  refine Met.ofW (cc := cX8_until) (maxL := 4) (ret := (some .int)) (by decide) rfl ?_
  intro p e s m args below meth c s₁ B hml hv
  obtain ⟨rfl, hsz, hP, hK, hD0, hE⟩ := hv
  have hx := B.exec
  have hb := B.bytes
  have hr := B.returns
  have hts := atoms_spec (ws := wsX8_until) B.pre
  have hown : s.vm.findClass RX8 = some m.cls := findClass_of_methodNamed B.named
  have hlocks := B.notSynchronized
  subst hsz
  have hD := hD0.self (sz := s.heap.size)
  have hA : ∀ q : Nat, s.heap.size ≤ q → va_A (wX cB cI cJ cZ a (a 35) (a 4) ww_latestFault tp_bytes tp_size rd_fault rd_faultPlace rd_kind rd_start rd_at rd_number dr_letterMarks dr_names dr_spelled dr_rows dr_alike dr_near dr_asks dr_letters dr_words dr_askCount sh_lanes sh_sizes sh_cells la_xs la_ys la_heights la_ridgeXs la_ridgeHeights la_way la_blurs la_steps la_places la_ridges la_wayBlur la_wayLength bk_times bk_froms bk_asks bk_words bk_firsts bk_lies bk_held bk_size nu_learned nu_size to_letterMarks to_names to_spelled to_rows to_alike to_near to_asks to_letters to_words to_askCount) s.heap.size q := fun q h => Or.inr h
  generalize va_A (wX cB cI cJ cZ a (a 35) (a 4) ww_latestFault tp_bytes tp_size rd_fault rd_faultPlace rd_kind rd_start rd_at rd_number dr_letterMarks dr_names dr_spelled dr_rows dr_alike dr_near dr_asks dr_letters dr_words dr_askCount sh_lanes sh_sizes sh_cells la_xs la_ys la_heights la_ridgeXs la_ridgeHeights la_way la_blurs la_steps la_places la_ridges la_wayBlur la_wayLength bk_times bk_froms bk_asks bk_words bk_firsts bk_lies bk_held bk_size nu_learned nu_size to_letterMarks to_names to_spelled to_rows to_alike to_near to_asks to_letters to_words to_askCount) s.heap.size = A at hD hA hE ⊢
  have hS : va_S A s.heap s.heap [] := va_S.rf
  have C0 : cxt cX8_until (some .int) 4 RX8 wsX8_until (dC, dI) (tyz cB cI cJ cZ) (E_X adK adV) A p s m ([.ref (a 0), .int x1, .int x2] : List Value).toArray meth c := ⟨hx, hb, hr, hml, hown, hts, hlocks, hK, hA, hE⟩
  have hl := lv_entry ([.ref (a 0), .int x1, .int x2]) (n := 4) (Nat.le_of_ble_eq_true rfl)
  rw [lg_entry_eq]
  generalize (lg_sl ([.ref (a 0), .int x1, .int x2]) ++ List.replicate (4 - (lg_sl ([.ref (a 0), .int x1, .int x2])).length) Slot.unset).toArray = ls at hl ⊢
  have hl : lv_has ls 4 [(0, .ref (a 0)), (1, .int x1), (2, .int x2)] := hl
  have hw0 := hts (.fieldLink RX8 60 "WhistledWords" "told" "LWhistledWords$Tongue;") (by decide +kernel)
  have hnX8 : ∀ w ∈ u_ws RX8 TX8 8, w ∈ wsX8_until := fun _ h => List.mem_cons_of_mem _ (List.mem_append_left _ (List.mem_append_right _ h))
  unfold fX8_until at h
  refine lv_aload_n hx hb dX8_until_0 rfl (lv_at hl 0 rfl) ?_
  refine gX_ww_told hx hb hts hnX8 hown hK hP hw0 dX8_until_1 ?_
  refine lv_iload_n hx hb dX8_until_4 rfl (lv_at hl 1 rfl) ?_
  obtain ⟨v1, hc, h⟩ := bd1_use h
  refine cv_i (As := [.int x1]) (rest := []) ⟨hx, hb, hml, hown, hts⟩ (kX7_isWord l n dC dI cB cI cJ cZ a adK adV _ ww_latestFault tp_bytes tp_size rd_fault rd_faultPlace rd_kind rd_start rd_at rd_number dr_letterMarks dr_names dr_spelled dr_rows dr_alike dr_near dr_asks dr_letters dr_words dr_askCount sh_lanes sh_sizes sh_cells la_xs la_ys la_heights la_ridgeXs la_ridgeHeights la_way la_blurs la_steps la_places la_ridges la_wayBlur la_wayLength bk_times bk_froms bk_asks bk_words bk_firsts bk_lies bk_held bk_size nu_learned nu_size to_letterMarks to_names to_spelled to_rows to_alike to_near to_asks to_letters to_words to_askCount x1 v1 hc) (cwV 1 hts gX8_until_X7_isWord rfl rfl rfl (by decide +kernel) ⟨Nat.le_of_ble_eq_true rfl, Nat.le_of_ble_eq_true rfl⟩) EB_X hE hK hP hD hS hA 35 (ci := 6) rfl rfl rfl rfl hl.1 rfl (Nat.le_of_ble_eq_true rfl) dX8_until_5 ⟨Nat.zero_le _, Nat.zero_le _⟩ (fun H locs hP hD hS => ?_)
  refine lv_if_eq (tgt := 22) hx hb dX8_until_8 (by decide) (fun c2 => ?_) (fun c2 => ?_)
  · have h := it_use c2 h
    refine lv_iconst (v := -1) hx hb dX8_until_22 (by decide) ?_
    obtain er := rt1_use h
    exact re_i hx hb hr hlocks hK hP hD hS er dX8_until_23
  · have h := ie_use c2 h
    refine lv_aload_n hx hb dX8_until_11 rfl (lv_at hl 0 rfl) ?_
    refine gX_ww_told hx hb hts hnX8 hown hK hP hw0 dX8_until_12 ?_
    refine lv_iload_n hx hb dX8_until_15 rfl (lv_at hl 2 rfl) ?_
    obtain ⟨v3, hc, h⟩ := bd1_use h
    refine cv_i (As := [.int x2]) (rest := []) ⟨hx, hb, hml, hown, hts⟩ (kX7_isWord l n dC dI cB cI cJ cZ a adK adV _ ww_latestFault tp_bytes tp_size rd_fault rd_faultPlace rd_kind rd_start rd_at rd_number dr_letterMarks dr_names dr_spelled dr_rows dr_alike dr_near dr_asks dr_letters dr_words dr_askCount sh_lanes sh_sizes sh_cells la_xs la_ys la_heights la_ridgeXs la_ridgeHeights la_way la_blurs la_steps la_places la_ridges la_wayBlur la_wayLength bk_times bk_froms bk_asks bk_words bk_firsts bk_lies bk_held bk_size nu_learned nu_size to_letterMarks to_names to_spelled to_rows to_alike to_near to_asks to_letters to_words to_askCount x2 v3 hc) (cwV 1 hts gX8_until_X7_isWord rfl rfl rfl (by decide +kernel) ⟨Nat.le_of_ble_eq_true rfl, Nat.le_of_ble_eq_true rfl⟩) EB_X hE hK hP hD hS hA 35 (ci := 6) rfl rfl rfl rfl hl.1 rfl (Nat.le_of_ble_eq_true rfl) dX8_until_16 ⟨Nat.zero_le _, Nat.zero_le _⟩ (fun H locs hP hD hS => ?_)
    refine lv_if_ne (tgt := 24) hx hb dX8_until_19 (by decide) (fun c4 => ?_) (fun c4 => ?_)
    · have h := ie_use c4 h
      refine lv_iconst (v := 0) hx hb dX8_until_24 (by decide) ?_
      refine lv_istore_n (lv' := [(3, .int (0 : Int32)), (0, .ref (a 0)), (1, .int x1), (2, .int x2)]) hx hb dX8_until_25 rfl hl (by decide) rfl (fun ls hl => ?_)
      exact kX8_until_p26 dC dI cB cI cJ cZ a adK adV C0 n ww_latestFault tp_bytes tp_size rd_fault rd_faultPlace rd_kind rd_start rd_at rd_number dr_letterMarks dr_names dr_spelled dr_rows dr_alike dr_near dr_asks dr_letters dr_words dr_askCount sh_lanes sh_sizes sh_cells la_xs la_ys la_heights la_ridgeXs la_ridgeHeights la_way la_blurs la_steps la_places la_ridges la_wayBlur la_wayLength bk_times bk_froms bk_asks bk_words bk_firsts bk_lies bk_held bk_size nu_learned nu_size to_letterMarks to_names to_spelled to_rows to_alike to_near to_asks to_letters to_words to_askCount x1 x2 (0 : Int32) r0  n _ _ ls h hP hD hS (lv_sub hl [1, 2, 3, 0] rfl)
    · have h := it_use c4 h
      refine lv_iconst (v := -1) hx hb dX8_until_22 (by decide) ?_
      obtain er := rt1_use h
      exact re_i hx hb hr hlocks hK hP hD hS er dX8_until_23
set_option maxHeartbeats 4000000 in
set_option maxRecDepth 100000 in
theorem kX7_allWords (l : Launch) (n : Nat) (dC : Nat → ClassId) (dI : Nat → Nat → Nat) (cB cI cJ cZ : ClassId) (a : Nat → Nat) (adK adV : Nat → Nat) (sz : Nat) (ww_latestFault : Int32) (tp_bytes : Nat → Int32) (tp_size : Int32) (rd_fault : Int32) (rd_faultPlace : Int32) (rd_kind : Int32) (rd_start : Int32) (rd_at : Int32) (rd_number : Int32) (dr_letterMarks : Nat → Int32) (dr_names : Nat → Int64) (dr_spelled : Nat → Int32) (dr_rows : Nat → Int64) (dr_alike : Nat → Int32) (dr_near : Nat → Int32) (dr_asks : Nat → Int32) (dr_letters : Int32) (dr_words : Int32) (dr_askCount : Int32) (sh_lanes : Nat → Int32) (sh_sizes : Nat → Int32) (sh_cells : Nat → Int32) (la_xs : Nat → Int32) (la_ys : Nat → Int32) (la_heights : Nat → Int32) (la_ridgeXs : Nat → Int32) (la_ridgeHeights : Nat → Int32) (la_way : Nat → Int32) (la_blurs : Nat → Int32) (la_steps : Nat → Int32) (la_places : Int32) (la_ridges : Int32) (la_wayBlur : Int32) (la_wayLength : Int32) (bk_times : Nat → Int32) (bk_froms : Nat → Int32) (bk_asks : Nat → Int32) (bk_words : Nat → Int32) (bk_firsts : Nat → Int32) (bk_lies : Nat → Int32) (bk_held : Nat → Int32) (bk_size : Int32) (nu_learned : Nat → Int32) (nu_size : Int32) (to_letterMarks : Nat → Int32) (to_names : Nat → Int64) (to_spelled : Nat → Int32) (to_rows : Nat → Int64) (to_alike : Nat → Int32) (to_near : Nat → Int32) (to_asks : Nat → Int32) (to_letters : Int32) (to_words : Int32) (to_askCount : Int32)  (r0 : Int32) (h : fX7_allWords n to_words = some r0) : Met l yX7_allWords wsX7_allWords ({ frames := 0, cells := 0, slots := 0, locals := 0 }) (gP (dC, dI) (tyz cB cI cJ cZ) (E_X adK adV) (wX cB cI cJ cZ a (a 35) (a 4) ww_latestFault tp_bytes tp_size rd_fault rd_faultPlace rd_kind rd_start rd_at rd_number dr_letterMarks dr_names dr_spelled dr_rows dr_alike dr_near dr_asks dr_letters dr_words dr_askCount sh_lanes sh_sizes sh_cells la_xs la_ys la_heights la_ridgeXs la_ridgeHeights la_way la_blurs la_steps la_places la_ridges la_wayBlur la_wayLength bk_times bk_froms bk_asks bk_words bk_firsts bk_lies bk_held bk_size nu_learned nu_size to_letterMarks to_names to_spelled to_rows to_alike to_near to_asks to_letters to_words to_askCount) sz [.ref (a 35)]) (gI (dC, dI) (tyz cB cI cJ cZ) (wX cB cI cJ cZ a (a 35) (a 4) ww_latestFault tp_bytes tp_size rd_fault rd_faultPlace rd_kind rd_start rd_at rd_number dr_letterMarks dr_names dr_spelled dr_rows dr_alike dr_near dr_asks dr_letters dr_words dr_askCount sh_lanes sh_sizes sh_cells la_xs la_ys la_heights la_ridgeXs la_ridgeHeights la_way la_blurs la_steps la_places la_ridges la_wayBlur la_wayLength bk_times bk_froms bk_asks bk_words bk_firsts bk_lies bk_held bk_size nu_learned nu_size to_letterMarks to_names to_spelled to_rows to_alike to_near to_asks to_letters to_words to_askCount) (va_A (wX cB cI cJ cZ a (a 35) (a 4) ww_latestFault tp_bytes tp_size rd_fault rd_faultPlace rd_kind rd_start rd_at rd_number dr_letterMarks dr_names dr_spelled dr_rows dr_alike dr_near dr_asks dr_letters dr_words dr_askCount sh_lanes sh_sizes sh_cells la_xs la_ys la_heights la_ridgeXs la_ridgeHeights la_way la_blurs la_steps la_places la_ridges la_wayBlur la_wayLength bk_times bk_froms bk_asks bk_words bk_firsts bk_lies bk_held bk_size nu_learned nu_size to_letterMarks to_names to_spelled to_rows to_alike to_near to_asks to_letters to_words to_askCount) sz) r0) 0 0 (va_A (wX cB cI cJ cZ a (a 35) (a 4) ww_latestFault tp_bytes tp_size rd_fault rd_faultPlace rd_kind rd_start rd_at rd_number dr_letterMarks dr_names dr_spelled dr_rows dr_alike dr_near dr_asks dr_letters dr_words dr_askCount sh_lanes sh_sizes sh_cells la_xs la_ys la_heights la_ridgeXs la_ridgeHeights la_way la_blurs la_steps la_places la_ridges la_wayBlur la_wayLength bk_times bk_froms bk_asks bk_words bk_firsts bk_lies bk_held bk_size nu_learned nu_size to_letterMarks to_names to_spelled to_rows to_alike to_near to_asks to_letters to_words to_askCount) sz) := by
  refine Met.ofW (cc := cX7_allWords) (maxL := 1) (ret := (some .int)) (by decide) rfl ?_
  intro p e s m args below meth c s₁ B hml hv
  obtain ⟨rfl, hsz, hP, hK, hD0, hE⟩ := hv
  have hx := B.exec
  have hb := B.bytes
  have hr := B.returns
  have hts := atoms_spec (ws := wsX7_allWords) B.pre
  have hown : s.vm.findClass RX7 = some m.cls := findClass_of_methodNamed B.named
  have hlocks := B.notSynchronized
  subst hsz
  have hD := hD0.self (sz := s.heap.size)
  have hA : ∀ q : Nat, s.heap.size ≤ q → va_A (wX cB cI cJ cZ a (a 35) (a 4) ww_latestFault tp_bytes tp_size rd_fault rd_faultPlace rd_kind rd_start rd_at rd_number dr_letterMarks dr_names dr_spelled dr_rows dr_alike dr_near dr_asks dr_letters dr_words dr_askCount sh_lanes sh_sizes sh_cells la_xs la_ys la_heights la_ridgeXs la_ridgeHeights la_way la_blurs la_steps la_places la_ridges la_wayBlur la_wayLength bk_times bk_froms bk_asks bk_words bk_firsts bk_lies bk_held bk_size nu_learned nu_size to_letterMarks to_names to_spelled to_rows to_alike to_near to_asks to_letters to_words to_askCount) s.heap.size q := fun q h => Or.inr h
  generalize va_A (wX cB cI cJ cZ a (a 35) (a 4) ww_latestFault tp_bytes tp_size rd_fault rd_faultPlace rd_kind rd_start rd_at rd_number dr_letterMarks dr_names dr_spelled dr_rows dr_alike dr_near dr_asks dr_letters dr_words dr_askCount sh_lanes sh_sizes sh_cells la_xs la_ys la_heights la_ridgeXs la_ridgeHeights la_way la_blurs la_steps la_places la_ridges la_wayBlur la_wayLength bk_times bk_froms bk_asks bk_words bk_firsts bk_lies bk_held bk_size nu_learned nu_size to_letterMarks to_names to_spelled to_rows to_alike to_near to_asks to_letters to_words to_askCount) s.heap.size = A at hD hA hE ⊢
  have hS : va_S A s.heap s.heap [] := va_S.rf
  have C0 : cxt cX7_allWords (some .int) 1 RX7 wsX7_allWords (dC, dI) (tyz cB cI cJ cZ) (E_X adK adV) A p s m ([.ref (a 35)] : List Value).toArray meth c := ⟨hx, hb, hr, hml, hown, hts, hlocks, hK, hA, hE⟩
  have hl := lv_entry ([.ref (a 35)]) (n := 1) (Nat.le_of_ble_eq_true rfl)
  rw [lg_entry_eq]
  generalize (lg_sl ([.ref (a 35)]) ++ List.replicate (1 - (lg_sl ([.ref (a 35)])).length) Slot.unset).toArray = ls at hl ⊢
  have hl : lv_has ls 1 [(0, .ref (a 35))] := hl
  have hw0 := hts (.fieldLink RX7 44 "WhistledWords$Tongue" "words" "I") (by decide +kernel)
  have hnX7 : ∀ w ∈ u_ws RX7 TX7 10, w ∈ wsX7_allWords := fun _ h => List.mem_cons_of_mem _ (List.mem_append_right _ h)
  unfold fX7_allWords at h
  refine lv_iconst (v := 1) hx hb dX7_allWords_0 (by decide) ?_
  refine lv_aload_n hx hb dX7_allWords_1 rfl (lv_at hl 0 rfl) ?_
  refine gX_told_words hx hb hts hnX7 hown hK hP hw0 dX7_allWords_2 ?_
  refine lv_ishl hx hb dX7_allWords_5 ?_
  refine lv_iconst (v := 1) hx hb dX7_allWords_6 (by decide) ?_
  refine lv_isub hx hb dX7_allWords_7 ?_
  obtain er := rt1_use h
  exact re_i hx hb hr hlocks hK hP hD hS er dX7_allWords_8
set_option maxHeartbeats 4000000 in
set_option maxRecDepth 100000 in
theorem kX7_alikeTo (l : Launch) (n : Nat) (dC : Nat → ClassId) (dI : Nat → Nat → Nat) (cB cI cJ cZ : ClassId) (a : Nat → Nat) (adK adV : Nat → Nat) (sz : Nat) (ww_latestFault : Int32) (tp_bytes : Nat → Int32) (tp_size : Int32) (rd_fault : Int32) (rd_faultPlace : Int32) (rd_kind : Int32) (rd_start : Int32) (rd_at : Int32) (rd_number : Int32) (dr_letterMarks : Nat → Int32) (dr_names : Nat → Int64) (dr_spelled : Nat → Int32) (dr_rows : Nat → Int64) (dr_alike : Nat → Int32) (dr_near : Nat → Int32) (dr_asks : Nat → Int32) (dr_letters : Int32) (dr_words : Int32) (dr_askCount : Int32) (sh_lanes : Nat → Int32) (sh_sizes : Nat → Int32) (sh_cells : Nat → Int32) (la_xs : Nat → Int32) (la_ys : Nat → Int32) (la_heights : Nat → Int32) (la_ridgeXs : Nat → Int32) (la_ridgeHeights : Nat → Int32) (la_way : Nat → Int32) (la_blurs : Nat → Int32) (la_steps : Nat → Int32) (la_places : Int32) (la_ridges : Int32) (la_wayBlur : Int32) (la_wayLength : Int32) (bk_times : Nat → Int32) (bk_froms : Nat → Int32) (bk_asks : Nat → Int32) (bk_words : Nat → Int32) (bk_firsts : Nat → Int32) (bk_lies : Nat → Int32) (bk_held : Nat → Int32) (bk_size : Int32) (nu_learned : Nat → Int32) (nu_size : Int32) (to_letterMarks : Nat → Int32) (to_names : Nat → Int64) (to_spelled : Nat → Int32) (to_rows : Nat → Int64) (to_alike : Nat → Int32) (to_near : Nat → Int32) (to_asks : Nat → Int32) (to_letters : Int32) (to_words : Int32) (to_askCount : Int32) (x1 : Int32) (x2 : Int32) (r0 : Int32) (h : fX7_alikeTo n to_alike x1 x2 = some r0) : Met l yX7_alikeTo wsX7_alikeTo ({ frames := 0, cells := 0, slots := 0, locals := 0 }) (gP (dC, dI) (tyz cB cI cJ cZ) (E_X adK adV) (wX cB cI cJ cZ a (a 35) (a 4) ww_latestFault tp_bytes tp_size rd_fault rd_faultPlace rd_kind rd_start rd_at rd_number dr_letterMarks dr_names dr_spelled dr_rows dr_alike dr_near dr_asks dr_letters dr_words dr_askCount sh_lanes sh_sizes sh_cells la_xs la_ys la_heights la_ridgeXs la_ridgeHeights la_way la_blurs la_steps la_places la_ridges la_wayBlur la_wayLength bk_times bk_froms bk_asks bk_words bk_firsts bk_lies bk_held bk_size nu_learned nu_size to_letterMarks to_names to_spelled to_rows to_alike to_near to_asks to_letters to_words to_askCount) sz [.ref (a 35), .int x1, .int x2]) (gI (dC, dI) (tyz cB cI cJ cZ) (wX cB cI cJ cZ a (a 35) (a 4) ww_latestFault tp_bytes tp_size rd_fault rd_faultPlace rd_kind rd_start rd_at rd_number dr_letterMarks dr_names dr_spelled dr_rows dr_alike dr_near dr_asks dr_letters dr_words dr_askCount sh_lanes sh_sizes sh_cells la_xs la_ys la_heights la_ridgeXs la_ridgeHeights la_way la_blurs la_steps la_places la_ridges la_wayBlur la_wayLength bk_times bk_froms bk_asks bk_words bk_firsts bk_lies bk_held bk_size nu_learned nu_size to_letterMarks to_names to_spelled to_rows to_alike to_near to_asks to_letters to_words to_askCount) (va_A (wX cB cI cJ cZ a (a 35) (a 4) ww_latestFault tp_bytes tp_size rd_fault rd_faultPlace rd_kind rd_start rd_at rd_number dr_letterMarks dr_names dr_spelled dr_rows dr_alike dr_near dr_asks dr_letters dr_words dr_askCount sh_lanes sh_sizes sh_cells la_xs la_ys la_heights la_ridgeXs la_ridgeHeights la_way la_blurs la_steps la_places la_ridges la_wayBlur la_wayLength bk_times bk_froms bk_asks bk_words bk_firsts bk_lies bk_held bk_size nu_learned nu_size to_letterMarks to_names to_spelled to_rows to_alike to_near to_asks to_letters to_words to_askCount) sz) r0) 0 0 (va_A (wX cB cI cJ cZ a (a 35) (a 4) ww_latestFault tp_bytes tp_size rd_fault rd_faultPlace rd_kind rd_start rd_at rd_number dr_letterMarks dr_names dr_spelled dr_rows dr_alike dr_near dr_asks dr_letters dr_words dr_askCount sh_lanes sh_sizes sh_cells la_xs la_ys la_heights la_ridgeXs la_ridgeHeights la_way la_blurs la_steps la_places la_ridges la_wayBlur la_wayLength bk_times bk_froms bk_asks bk_words bk_firsts bk_lies bk_held bk_size nu_learned nu_size to_letterMarks to_names to_spelled to_rows to_alike to_near to_asks to_letters to_words to_askCount) sz) := by
  refine Met.ofW (cc := cX7_alikeTo) (maxL := 3) (ret := (some .int)) (by decide) rfl ?_
  intro p e s m args below meth c s₁ B hml hv
  obtain ⟨rfl, hsz, hP, hK, hD0, hE⟩ := hv
  have hx := B.exec
  have hb := B.bytes
  have hr := B.returns
  have hts := atoms_spec (ws := wsX7_alikeTo) B.pre
  have hown : s.vm.findClass RX7 = some m.cls := findClass_of_methodNamed B.named
  have hlocks := B.notSynchronized
  subst hsz
  have hD := hD0.self (sz := s.heap.size)
  have hA : ∀ q : Nat, s.heap.size ≤ q → va_A (wX cB cI cJ cZ a (a 35) (a 4) ww_latestFault tp_bytes tp_size rd_fault rd_faultPlace rd_kind rd_start rd_at rd_number dr_letterMarks dr_names dr_spelled dr_rows dr_alike dr_near dr_asks dr_letters dr_words dr_askCount sh_lanes sh_sizes sh_cells la_xs la_ys la_heights la_ridgeXs la_ridgeHeights la_way la_blurs la_steps la_places la_ridges la_wayBlur la_wayLength bk_times bk_froms bk_asks bk_words bk_firsts bk_lies bk_held bk_size nu_learned nu_size to_letterMarks to_names to_spelled to_rows to_alike to_near to_asks to_letters to_words to_askCount) s.heap.size q := fun q h => Or.inr h
  generalize va_A (wX cB cI cJ cZ a (a 35) (a 4) ww_latestFault tp_bytes tp_size rd_fault rd_faultPlace rd_kind rd_start rd_at rd_number dr_letterMarks dr_names dr_spelled dr_rows dr_alike dr_near dr_asks dr_letters dr_words dr_askCount sh_lanes sh_sizes sh_cells la_xs la_ys la_heights la_ridgeXs la_ridgeHeights la_way la_blurs la_steps la_places la_ridges la_wayBlur la_wayLength bk_times bk_froms bk_asks bk_words bk_firsts bk_lies bk_held bk_size nu_learned nu_size to_letterMarks to_names to_spelled to_rows to_alike to_near to_asks to_letters to_words to_askCount) s.heap.size = A at hD hA hE ⊢
  have hS : va_S A s.heap s.heap [] := va_S.rf
  have C0 : cxt cX7_alikeTo (some .int) 3 RX7 wsX7_alikeTo (dC, dI) (tyz cB cI cJ cZ) (E_X adK adV) A p s m ([.ref (a 35), .int x1, .int x2] : List Value).toArray meth c := ⟨hx, hb, hr, hml, hown, hts, hlocks, hK, hA, hE⟩
  have hl := lv_entry ([.ref (a 35), .int x1, .int x2]) (n := 3) (Nat.le_of_ble_eq_true rfl)
  rw [lg_entry_eq]
  generalize (lg_sl ([.ref (a 35), .int x1, .int x2]) ++ List.replicate (3 - (lg_sl ([.ref (a 35), .int x1, .int x2])).length) Slot.unset).toArray = ls at hl ⊢
  have hl : lv_has ls 3 [(0, .ref (a 35)), (1, .int x1), (2, .int x2)] := hl
  have hw0 := hts (.fieldLink RX7 31 "WhistledWords$Tongue" "alike" "[I") (by decide +kernel)
  have hnX7 : ∀ w ∈ u_ws RX7 TX7 10, w ∈ wsX7_alikeTo := fun _ h => List.mem_cons_of_mem _ (List.mem_append_right _ h)
  unfold fX7_alikeTo at h
  refine lv_aload_n hx hb dX7_alikeTo_0 rfl (lv_at hl 0 rfl) ?_
  refine gX_told_alike hx hb hts hnX7 hown hK hP hw0 dX7_alikeTo_1 ?_
  refine lv_iload_n hx hb dX7_alikeTo_4 rfl (lv_at hl 2 rfl) ?_
  refine lv_bipush (v := 16) hx hb dX7_alikeTo_5 (by decide) ?_
  refine lv_imul hx hb dX7_alikeTo_7 ?_
  refine lv_iload_n hx hb dX7_alikeTo_8 rfl (lv_at hl 1 rfl) ?_
  refine lv_iadd hx hb dX7_alikeTo_9 ?_
  obtain ⟨hiv1, h⟩ := ar_use h
  refine lX_told_alike hx hb hK hP hiv1 dX7_alikeTo_10 ?_
  refine lv_topi (fun v1 ev1 => ?_)
  have h := h v1 ev1
  obtain er := rt1_use h
  exact re_i hx hb hr hlocks hK hP hD hS er dX7_alikeTo_11
set_option maxHeartbeats 4000000 in
set_option maxRecDepth 100000 in
theorem kX7_cutOf_p5_r {p : Program} {l : Launch} {e : Env} {s : State} {m : MethodId} {args : Array Value} {below : List Frame} {meth : Method} {c : Code} {A : Nat → Prop} (dC : Nat → ClassId) (dI : Nat → Nat → Nat) (cB cI cJ cZ : ClassId) (a : Nat → Nat) (adK adV : Nat → Nat) (C0 : cxt cX7_cutOf (some .int) 5 RX7 wsX7_cutOf (dC, dI) (tyz cB cI cJ cZ) (E_X adK adV) A p s m args meth c) (n : Nat) (ww_latestFault : Int32) (tp_bytes : Nat → Int32) (tp_size : Int32) (rd_fault : Int32) (rd_faultPlace : Int32) (rd_kind : Int32) (rd_start : Int32) (rd_at : Int32) (rd_number : Int32) (dr_letterMarks : Nat → Int32) (dr_names : Nat → Int64) (dr_spelled : Nat → Int32) (dr_rows : Nat → Int64) (dr_alike : Nat → Int32) (dr_near : Nat → Int32) (dr_asks : Nat → Int32) (dr_letters : Int32) (dr_words : Int32) (dr_askCount : Int32) (sh_lanes : Nat → Int32) (sh_sizes : Nat → Int32) (sh_cells : Nat → Int32) (la_xs : Nat → Int32) (la_ys : Nat → Int32) (la_heights : Nat → Int32) (la_ridgeXs : Nat → Int32) (la_ridgeHeights : Nat → Int32) (la_way : Nat → Int32) (la_blurs : Nat → Int32) (la_steps : Nat → Int32) (la_places : Int32) (la_ridges : Int32) (la_wayBlur : Int32) (la_wayLength : Int32) (bk_times : Nat → Int32) (bk_froms : Nat → Int32) (bk_asks : Nat → Int32) (bk_words : Nat → Int32) (bk_firsts : Nat → Int32) (bk_lies : Nat → Int32) (bk_held : Nat → Int32) (bk_size : Int32) (nu_learned : Nat → Int32) (nu_size : Int32) (to_letterMarks : Nat → Int32) (to_names : Nat → Int64) (to_spelled : Nat → Int32) (to_rows : Nat → Int64) (to_alike : Nat → Int32) (to_near : Nat → Int32) (to_asks : Nat → Int32) (to_letters : Int32) (to_words : Int32) (to_askCount : Int32) (x1 : Int32) (x2 : Int32) (r0 : Int32)  : ∀ (k : Nat) (x3 : Int32) (x4 : Int32) (H : Heap) (locs : List Loc) (ls : Array Slot), fX7_cutOf_p5 n to_alike to_words x1 x2 k x3 x4 = some r0 → va_P (dC, dI) vwCl (wX cB cI cJ cZ a (a 35) (a 4) ww_latestFault tp_bytes tp_size rd_fault rd_faultPlace rd_kind rd_start rd_at rd_number dr_letterMarks dr_names dr_spelled dr_rows dr_alike dr_near dr_asks dr_letters dr_words dr_askCount sh_lanes sh_sizes sh_cells la_xs la_ys la_heights la_ridgeXs la_ridgeHeights la_way la_blurs la_steps la_places la_ridges la_wayBlur la_wayLength bk_times bk_froms bk_asks bk_words bk_firsts bk_lies bk_held bk_size nu_learned nu_size to_letterMarks to_names to_spelled to_rows to_alike to_near to_asks to_letters to_words to_askCount) H → va_D A (wX cB cI cJ cZ a (a 35) (a 4) ww_latestFault tp_bytes tp_size rd_fault rd_faultPlace rd_kind rd_start rd_at rd_number dr_letterMarks dr_names dr_spelled dr_rows dr_alike dr_near dr_asks dr_letters dr_words dr_askCount sh_lanes sh_sizes sh_cells la_xs la_ys la_heights la_ridgeXs la_ridgeHeights la_way la_blurs la_steps la_places la_ridges la_wayBlur la_wayLength bk_times bk_froms bk_asks bk_words bk_firsts bk_lies bk_held bk_size nu_learned nu_size to_letterMarks to_names to_spelled to_rows to_alike to_near to_asks to_letters to_words to_askCount) → va_S A s.heap H locs → lv_has ls 5 [(0, .ref (a 35)), (1, .int x1), (2, .int x2), (3, .int x3), (4, .int x4)] → W p l e { frames := 1, cells := 0, slots := 0, locals := 22 } s m args below meth c H locs 0 0 (MQ below (gI (dC, dI) (tyz cB cI cJ cZ) (wX cB cI cJ cZ a (a 35) (a 4) ww_latestFault tp_bytes tp_size rd_fault rd_faultPlace rd_kind rd_start rd_at rd_number dr_letterMarks dr_names dr_spelled dr_rows dr_alike dr_near dr_asks dr_letters dr_words dr_askCount sh_lanes sh_sizes sh_cells la_xs la_ys la_heights la_ridgeXs la_ridgeHeights la_way la_blurs la_steps la_places la_ridges la_wayBlur la_wayLength bk_times bk_froms bk_asks bk_words bk_firsts bk_lies bk_held bk_size nu_learned nu_size to_letterMarks to_names to_spelled to_rows to_alike to_near to_asks to_letters to_words to_askCount) A r0) args s 0 0 A) (F0 m 5 ls []) := by
  obtain ⟨hx, hb, hr, hml, hown, hts, hlocks, hK, hA, hE⟩ := id C0
  have hw0 := hts (.fieldLink RX7 44 "WhistledWords$Tongue" "words" "I") (by decide +kernel)
  have hw1 := hts (.initialized RX8) (by decide +kernel)
  have hw2 := hts (.static yX8_isIn) (by decide +kernel)
  have hnX7 : ∀ w ∈ u_ws RX7 TX7 10, w ∈ wsX7_cutOf := fun _ h => List.mem_cons_of_mem _ (List.mem_append_right _ h)
  intro k
  induction k with
  | zero =>
    intro x3 x4 H locs ls h
    cases h
  | succ k ih =>
    intro x3 x4 H locs ls h hP hD hS hl
    rw [fX7_cutOf_p5] at h
    refine lv_iload hx hb dX7_cutOf_5 (lv_at hl 4 rfl) ?_
    refine lv_aload_n hx hb dX7_cutOf_7 rfl (lv_at hl 0 rfl) ?_
    refine gX_told_words hx hb hts hnX7 hown hK hP hw0 dX7_cutOf_8 ?_
    refine lv_icmp_ge (tgt := 48) hx hb dX7_cutOf_11 (by decide) (fun c1 => ?_) (fun c1 => ?_)
    · have h := it_use c1 h
      refine lv_iload_n hx hb dX7_cutOf_48 rfl (lv_at hl 3 rfl) ?_
      obtain er := rt1_use h
      exact re_i hx hb hr hlocks hK hP hD hS er dX7_cutOf_49
    · have h := ie_use c1 h
      refine lv_iload_n hx hb dX7_cutOf_14 rfl (lv_at hl 1 rfl) ?_
      refine lv_iload hx hb dX7_cutOf_15 (lv_at hl 4 rfl) ?_
      obtain ⟨v2, hc, h⟩ := bd1_use h
      refine cn_i (As := [.int x1, .int x4]) (rest := []) ⟨hx, hb, hml, hown, hts⟩ (kX8_isIn l n x1 x4 v2 hc) ⟨va_cnB 2 hts ggX7_cutOf_X8_isIn rfl rfl rfl (hE.1.2.2) hw1 (by decide +kernel) ⟨Nat.le_of_ble_eq_true rfl, Nat.le_of_ble_eq_true rfl⟩, hw2, trivial⟩ hP hS rfl hl.1 rfl (Nat.le_of_ble_eq_true rfl) dX7_cutOf_17 ⟨Nat.zero_le _, Nat.zero_le _⟩ (fun H locs hP hS => ?_)
      refine lv_if_eq (tgt := 42) hx hb dX7_cutOf_20 (by decide) (fun c3 => ?_) (fun c3 => ?_)
      · have h := it_use c3 h
        refine lv_iinc (v := x4 + 1) (lv' := [(4, .int (x4 + 1)), (0, .ref (a 35)), (1, .int x1), (2, .int x2), (3, .int x3)]) hx hb dX7_cutOf_42 hl (k := 4) rfl rfl (by decide) rfl (fun ls hl => ?_)
        refine lv_goto (tgt := 5) hx hb dX7_cutOf_45 (by decide) ?_
        exact ih x3 (x4 + 1) _ _ ls h hP hD hS (lv_sub hl [1, 2, 3, 4, 0] rfl)
      · have h := ie_use c3 h
        refine lv_aload_n hx hb dX7_cutOf_23 rfl (lv_at hl 0 rfl) ?_
        refine lv_iload hx hb dX7_cutOf_24 (lv_at hl 4 rfl) ?_
        refine lv_iload_n hx hb dX7_cutOf_26 rfl (lv_at hl 2 rfl) ?_
        obtain ⟨v4, hc, h⟩ := bd1_use h
        refine cv_i (As := [.int x4, .int x2]) (rest := []) ⟨hx, hb, hml, hown, hts⟩ (kX7_alikeTo l n dC dI cB cI cJ cZ a adK adV _ ww_latestFault tp_bytes tp_size rd_fault rd_faultPlace rd_kind rd_start rd_at rd_number dr_letterMarks dr_names dr_spelled dr_rows dr_alike dr_near dr_asks dr_letters dr_words dr_askCount sh_lanes sh_sizes sh_cells la_xs la_ys la_heights la_ridgeXs la_ridgeHeights la_way la_blurs la_steps la_places la_ridges la_wayBlur la_wayLength bk_times bk_froms bk_asks bk_words bk_firsts bk_lies bk_held bk_size nu_learned nu_size to_letterMarks to_names to_spelled to_rows to_alike to_near to_asks to_letters to_words to_askCount x4 x2 v4 hc) (cwV 2 hts gX7_cutOf_X7_alikeTo rfl rfl rfl (by decide +kernel) ⟨Nat.le_of_ble_eq_true rfl, Nat.le_of_ble_eq_true rfl⟩) EB_X hE hK hP hD hS hA 35 (ci := 6) rfl rfl rfl rfl hl.1 rfl (Nat.le_of_ble_eq_true rfl) dX7_cutOf_27 ⟨Nat.zero_le _, Nat.zero_le _⟩ (fun H locs hP hD hS => ?_)
        refine lv_iload_n hx hb dX7_cutOf_30 rfl (lv_at hl 3 rfl) ?_
        refine lv_iand hx hb dX7_cutOf_31 ?_
        refine lv_if_ne (tgt := 42) hx hb dX7_cutOf_32 (by decide) (fun c5 => ?_) (fun c5 => ?_)
        · have h := ie_use c5 h
          refine lv_iinc (v := x4 + 1) (lv' := [(4, .int (x4 + 1)), (0, .ref (a 35)), (1, .int x1), (2, .int x2), (3, .int x3)]) hx hb dX7_cutOf_42 hl (k := 4) rfl rfl (by decide) rfl (fun ls hl => ?_)
          refine lv_goto (tgt := 5) hx hb dX7_cutOf_45 (by decide) ?_
          exact ih x3 (x4 + 1) _ _ ls h hP hD hS (lv_sub hl [1, 2, 3, 4, 0] rfl)
        · have h := it_use c5 h
          refine lv_iload_n hx hb dX7_cutOf_35 rfl (lv_at hl 3 rfl) ?_
          refine lv_iconst (v := 1) hx hb dX7_cutOf_36 (by decide) ?_
          refine lv_iload hx hb dX7_cutOf_37 (lv_at hl 4 rfl) ?_
          refine lv_ishl hx hb dX7_cutOf_39 ?_
          refine lv_ior hx hb dX7_cutOf_40 ?_
          refine lv_topi (fun v6 ev6 => ?_)
          have h := nm_use ev6 h
          refine lv_istore_n (lv' := [(3, .int v6), (0, .ref (a 35)), (1, .int x1), (2, .int x2), (4, .int x4)]) hx hb dX7_cutOf_41 rfl hl (by decide) rfl (fun ls hl => ?_)
          refine lv_iinc (v := x4 + 1) (lv' := [(4, .int (x4 + 1)), (3, .int v6), (0, .ref (a 35)), (1, .int x1), (2, .int x2)]) hx hb dX7_cutOf_42 hl (k := 4) rfl rfl (by decide) rfl (fun ls hl => ?_)
          refine lv_goto (tgt := 5) hx hb dX7_cutOf_45 (by decide) ?_
          exact ih v6 (x4 + 1) _ _ ls h hP hD hS (lv_sub hl [2, 3, 4, 1, 0] rfl)
theorem kX7_cutOf_p5 {p : Program} {l : Launch} {e : Env} {s : State} {m : MethodId} {args : Array Value} {below : List Frame} {meth : Method} {c : Code} {A : Nat → Prop} (dC : Nat → ClassId) (dI : Nat → Nat → Nat) (cB cI cJ cZ : ClassId) (a : Nat → Nat) (adK adV : Nat → Nat) (C0 : cxt cX7_cutOf (some .int) 5 RX7 wsX7_cutOf (dC, dI) (tyz cB cI cJ cZ) (E_X adK adV) A p s m args meth c) (n : Nat) (ww_latestFault : Int32) (tp_bytes : Nat → Int32) (tp_size : Int32) (rd_fault : Int32) (rd_faultPlace : Int32) (rd_kind : Int32) (rd_start : Int32) (rd_at : Int32) (rd_number : Int32) (dr_letterMarks : Nat → Int32) (dr_names : Nat → Int64) (dr_spelled : Nat → Int32) (dr_rows : Nat → Int64) (dr_alike : Nat → Int32) (dr_near : Nat → Int32) (dr_asks : Nat → Int32) (dr_letters : Int32) (dr_words : Int32) (dr_askCount : Int32) (sh_lanes : Nat → Int32) (sh_sizes : Nat → Int32) (sh_cells : Nat → Int32) (la_xs : Nat → Int32) (la_ys : Nat → Int32) (la_heights : Nat → Int32) (la_ridgeXs : Nat → Int32) (la_ridgeHeights : Nat → Int32) (la_way : Nat → Int32) (la_blurs : Nat → Int32) (la_steps : Nat → Int32) (la_places : Int32) (la_ridges : Int32) (la_wayBlur : Int32) (la_wayLength : Int32) (bk_times : Nat → Int32) (bk_froms : Nat → Int32) (bk_asks : Nat → Int32) (bk_words : Nat → Int32) (bk_firsts : Nat → Int32) (bk_lies : Nat → Int32) (bk_held : Nat → Int32) (bk_size : Int32) (nu_learned : Nat → Int32) (nu_size : Int32) (to_letterMarks : Nat → Int32) (to_names : Nat → Int64) (to_spelled : Nat → Int32) (to_rows : Nat → Int64) (to_alike : Nat → Int32) (to_near : Nat → Int32) (to_asks : Nat → Int32) (to_letters : Int32) (to_words : Int32) (to_askCount : Int32)  (x1 : Int32) (x2 : Int32) (x3 : Int32) (x4 : Int32) (r0 : Int32)  (k : Nat) (H : Heap) (locs : List Loc) (ls : Array Slot) : fX7_cutOf_p5 n to_alike to_words x1 x2 k x3 x4 = some r0 → va_P (dC, dI) vwCl (wX cB cI cJ cZ a (a 35) (a 4) ww_latestFault tp_bytes tp_size rd_fault rd_faultPlace rd_kind rd_start rd_at rd_number dr_letterMarks dr_names dr_spelled dr_rows dr_alike dr_near dr_asks dr_letters dr_words dr_askCount sh_lanes sh_sizes sh_cells la_xs la_ys la_heights la_ridgeXs la_ridgeHeights la_way la_blurs la_steps la_places la_ridges la_wayBlur la_wayLength bk_times bk_froms bk_asks bk_words bk_firsts bk_lies bk_held bk_size nu_learned nu_size to_letterMarks to_names to_spelled to_rows to_alike to_near to_asks to_letters to_words to_askCount) H → va_D A (wX cB cI cJ cZ a (a 35) (a 4) ww_latestFault tp_bytes tp_size rd_fault rd_faultPlace rd_kind rd_start rd_at rd_number dr_letterMarks dr_names dr_spelled dr_rows dr_alike dr_near dr_asks dr_letters dr_words dr_askCount sh_lanes sh_sizes sh_cells la_xs la_ys la_heights la_ridgeXs la_ridgeHeights la_way la_blurs la_steps la_places la_ridges la_wayBlur la_wayLength bk_times bk_froms bk_asks bk_words bk_firsts bk_lies bk_held bk_size nu_learned nu_size to_letterMarks to_names to_spelled to_rows to_alike to_near to_asks to_letters to_words to_askCount) → va_S A s.heap H locs → lv_has ls 5 [(0, .ref (a 35)), (1, .int x1), (2, .int x2), (3, .int x3), (4, .int x4)] → W p l e { frames := 1, cells := 0, slots := 0, locals := 22 } s m args below meth c H locs 0 0 (MQ below (gI (dC, dI) (tyz cB cI cJ cZ) (wX cB cI cJ cZ a (a 35) (a 4) ww_latestFault tp_bytes tp_size rd_fault rd_faultPlace rd_kind rd_start rd_at rd_number dr_letterMarks dr_names dr_spelled dr_rows dr_alike dr_near dr_asks dr_letters dr_words dr_askCount sh_lanes sh_sizes sh_cells la_xs la_ys la_heights la_ridgeXs la_ridgeHeights la_way la_blurs la_steps la_places la_ridges la_wayBlur la_wayLength bk_times bk_froms bk_asks bk_words bk_firsts bk_lies bk_held bk_size nu_learned nu_size to_letterMarks to_names to_spelled to_rows to_alike to_near to_asks to_letters to_words to_askCount) A r0) args s 0 0 A) (F0 m 5 ls []) :=
  kX7_cutOf_p5_r dC dI cB cI cJ cZ a adK adV C0 n ww_latestFault tp_bytes tp_size rd_fault rd_faultPlace rd_kind rd_start rd_at rd_number dr_letterMarks dr_names dr_spelled dr_rows dr_alike dr_near dr_asks dr_letters dr_words dr_askCount sh_lanes sh_sizes sh_cells la_xs la_ys la_heights la_ridgeXs la_ridgeHeights la_way la_blurs la_steps la_places la_ridges la_wayBlur la_wayLength bk_times bk_froms bk_asks bk_words bk_firsts bk_lies bk_held bk_size nu_learned nu_size to_letterMarks to_names to_spelled to_rows to_alike to_near to_asks to_letters to_words to_askCount x1 x2 r0  k x3 x4 H locs ls
set_option maxHeartbeats 4000000 in
set_option maxRecDepth 100000 in
theorem kX7_cutOf (l : Launch) (n : Nat) (dC : Nat → ClassId) (dI : Nat → Nat → Nat) (cB cI cJ cZ : ClassId) (a : Nat → Nat) (adK adV : Nat → Nat) (sz : Nat) (ww_latestFault : Int32) (tp_bytes : Nat → Int32) (tp_size : Int32) (rd_fault : Int32) (rd_faultPlace : Int32) (rd_kind : Int32) (rd_start : Int32) (rd_at : Int32) (rd_number : Int32) (dr_letterMarks : Nat → Int32) (dr_names : Nat → Int64) (dr_spelled : Nat → Int32) (dr_rows : Nat → Int64) (dr_alike : Nat → Int32) (dr_near : Nat → Int32) (dr_asks : Nat → Int32) (dr_letters : Int32) (dr_words : Int32) (dr_askCount : Int32) (sh_lanes : Nat → Int32) (sh_sizes : Nat → Int32) (sh_cells : Nat → Int32) (la_xs : Nat → Int32) (la_ys : Nat → Int32) (la_heights : Nat → Int32) (la_ridgeXs : Nat → Int32) (la_ridgeHeights : Nat → Int32) (la_way : Nat → Int32) (la_blurs : Nat → Int32) (la_steps : Nat → Int32) (la_places : Int32) (la_ridges : Int32) (la_wayBlur : Int32) (la_wayLength : Int32) (bk_times : Nat → Int32) (bk_froms : Nat → Int32) (bk_asks : Nat → Int32) (bk_words : Nat → Int32) (bk_firsts : Nat → Int32) (bk_lies : Nat → Int32) (bk_held : Nat → Int32) (bk_size : Int32) (nu_learned : Nat → Int32) (nu_size : Int32) (to_letterMarks : Nat → Int32) (to_names : Nat → Int64) (to_spelled : Nat → Int32) (to_rows : Nat → Int64) (to_alike : Nat → Int32) (to_near : Nat → Int32) (to_asks : Nat → Int32) (to_letters : Int32) (to_words : Int32) (to_askCount : Int32) (x1 : Int32) (x2 : Int32) (r0 : Int32) (h : fX7_cutOf n to_alike to_words x1 x2 = some r0) : Met l yX7_cutOf wsX7_cutOf ({ frames := 1, cells := 0, slots := 0, locals := 22 }) (gP (dC, dI) (tyz cB cI cJ cZ) (E_X adK adV) (wX cB cI cJ cZ a (a 35) (a 4) ww_latestFault tp_bytes tp_size rd_fault rd_faultPlace rd_kind rd_start rd_at rd_number dr_letterMarks dr_names dr_spelled dr_rows dr_alike dr_near dr_asks dr_letters dr_words dr_askCount sh_lanes sh_sizes sh_cells la_xs la_ys la_heights la_ridgeXs la_ridgeHeights la_way la_blurs la_steps la_places la_ridges la_wayBlur la_wayLength bk_times bk_froms bk_asks bk_words bk_firsts bk_lies bk_held bk_size nu_learned nu_size to_letterMarks to_names to_spelled to_rows to_alike to_near to_asks to_letters to_words to_askCount) sz [.ref (a 35), .int x1, .int x2]) (gI (dC, dI) (tyz cB cI cJ cZ) (wX cB cI cJ cZ a (a 35) (a 4) ww_latestFault tp_bytes tp_size rd_fault rd_faultPlace rd_kind rd_start rd_at rd_number dr_letterMarks dr_names dr_spelled dr_rows dr_alike dr_near dr_asks dr_letters dr_words dr_askCount sh_lanes sh_sizes sh_cells la_xs la_ys la_heights la_ridgeXs la_ridgeHeights la_way la_blurs la_steps la_places la_ridges la_wayBlur la_wayLength bk_times bk_froms bk_asks bk_words bk_firsts bk_lies bk_held bk_size nu_learned nu_size to_letterMarks to_names to_spelled to_rows to_alike to_near to_asks to_letters to_words to_askCount) (va_A (wX cB cI cJ cZ a (a 35) (a 4) ww_latestFault tp_bytes tp_size rd_fault rd_faultPlace rd_kind rd_start rd_at rd_number dr_letterMarks dr_names dr_spelled dr_rows dr_alike dr_near dr_asks dr_letters dr_words dr_askCount sh_lanes sh_sizes sh_cells la_xs la_ys la_heights la_ridgeXs la_ridgeHeights la_way la_blurs la_steps la_places la_ridges la_wayBlur la_wayLength bk_times bk_froms bk_asks bk_words bk_firsts bk_lies bk_held bk_size nu_learned nu_size to_letterMarks to_names to_spelled to_rows to_alike to_near to_asks to_letters to_words to_askCount) sz) r0) 0 0 (va_A (wX cB cI cJ cZ a (a 35) (a 4) ww_latestFault tp_bytes tp_size rd_fault rd_faultPlace rd_kind rd_start rd_at rd_number dr_letterMarks dr_names dr_spelled dr_rows dr_alike dr_near dr_asks dr_letters dr_words dr_askCount sh_lanes sh_sizes sh_cells la_xs la_ys la_heights la_ridgeXs la_ridgeHeights la_way la_blurs la_steps la_places la_ridges la_wayBlur la_wayLength bk_times bk_froms bk_asks bk_words bk_firsts bk_lies bk_held bk_size nu_learned nu_size to_letterMarks to_names to_spelled to_rows to_alike to_near to_asks to_letters to_words to_askCount) sz) := by
  refine Met.ofW (cc := cX7_cutOf) (maxL := 5) (ret := (some .int)) (by decide) rfl ?_
  intro p e s m args below meth c s₁ B hml hv
  obtain ⟨rfl, hsz, hP, hK, hD0, hE⟩ := hv
  have hx := B.exec
  have hb := B.bytes
  have hr := B.returns
  have hts := atoms_spec (ws := wsX7_cutOf) B.pre
  have hown : s.vm.findClass RX7 = some m.cls := findClass_of_methodNamed B.named
  have hlocks := B.notSynchronized
  subst hsz
  have hD := hD0.self (sz := s.heap.size)
  have hA : ∀ q : Nat, s.heap.size ≤ q → va_A (wX cB cI cJ cZ a (a 35) (a 4) ww_latestFault tp_bytes tp_size rd_fault rd_faultPlace rd_kind rd_start rd_at rd_number dr_letterMarks dr_names dr_spelled dr_rows dr_alike dr_near dr_asks dr_letters dr_words dr_askCount sh_lanes sh_sizes sh_cells la_xs la_ys la_heights la_ridgeXs la_ridgeHeights la_way la_blurs la_steps la_places la_ridges la_wayBlur la_wayLength bk_times bk_froms bk_asks bk_words bk_firsts bk_lies bk_held bk_size nu_learned nu_size to_letterMarks to_names to_spelled to_rows to_alike to_near to_asks to_letters to_words to_askCount) s.heap.size q := fun q h => Or.inr h
  generalize va_A (wX cB cI cJ cZ a (a 35) (a 4) ww_latestFault tp_bytes tp_size rd_fault rd_faultPlace rd_kind rd_start rd_at rd_number dr_letterMarks dr_names dr_spelled dr_rows dr_alike dr_near dr_asks dr_letters dr_words dr_askCount sh_lanes sh_sizes sh_cells la_xs la_ys la_heights la_ridgeXs la_ridgeHeights la_way la_blurs la_steps la_places la_ridges la_wayBlur la_wayLength bk_times bk_froms bk_asks bk_words bk_firsts bk_lies bk_held bk_size nu_learned nu_size to_letterMarks to_names to_spelled to_rows to_alike to_near to_asks to_letters to_words to_askCount) s.heap.size = A at hD hA hE ⊢
  have hS : va_S A s.heap s.heap [] := va_S.rf
  have C0 : cxt cX7_cutOf (some .int) 5 RX7 wsX7_cutOf (dC, dI) (tyz cB cI cJ cZ) (E_X adK adV) A p s m ([.ref (a 35), .int x1, .int x2] : List Value).toArray meth c := ⟨hx, hb, hr, hml, hown, hts, hlocks, hK, hA, hE⟩
  have hl := lv_entry ([.ref (a 35), .int x1, .int x2]) (n := 5) (Nat.le_of_ble_eq_true rfl)
  rw [lg_entry_eq]
  generalize (lg_sl ([.ref (a 35), .int x1, .int x2]) ++ List.replicate (5 - (lg_sl ([.ref (a 35), .int x1, .int x2])).length) Slot.unset).toArray = ls at hl ⊢
  have hl : lv_has ls 5 [(0, .ref (a 35)), (1, .int x1), (2, .int x2)] := hl
  unfold fX7_cutOf at h
  refine lv_iconst (v := 0) hx hb dX7_cutOf_0 (by decide) ?_
  refine lv_istore_n (lv' := [(3, .int (0 : Int32)), (0, .ref (a 35)), (1, .int x1), (2, .int x2)]) hx hb dX7_cutOf_1 rfl hl (by decide) rfl (fun ls hl => ?_)
  refine lv_iconst (v := 0) hx hb dX7_cutOf_2 (by decide) ?_
  refine lv_istore (lv' := [(4, .int (0 : Int32)), (3, .int (0 : Int32)), (0, .ref (a 35)), (1, .int x1), (2, .int x2)]) hx hb dX7_cutOf_3 hl (by decide) rfl (fun ls hl => ?_)
  exact kX7_cutOf_p5 dC dI cB cI cJ cZ a adK adV C0 n ww_latestFault tp_bytes tp_size rd_fault rd_faultPlace rd_kind rd_start rd_at rd_number dr_letterMarks dr_names dr_spelled dr_rows dr_alike dr_near dr_asks dr_letters dr_words dr_askCount sh_lanes sh_sizes sh_cells la_xs la_ys la_heights la_ridgeXs la_ridgeHeights la_way la_blurs la_steps la_places la_ridges la_wayBlur la_wayLength bk_times bk_froms bk_asks bk_words bk_firsts bk_lies bk_held bk_size nu_learned nu_size to_letterMarks to_names to_spelled to_rows to_alike to_near to_asks to_letters to_words to_askCount x1 x2 (0 : Int32) (0 : Int32) r0  n _ _ ls h hP hD hS (lv_sub hl [2, 3, 4, 1, 0] rfl)
set_option maxHeartbeats 4000000 in
set_option maxRecDepth 100000 in
theorem kX7_alikePairs_p5_r {p : Program} {l : Launch} {e : Env} {s : State} {m : MethodId} {args : Array Value} {below : List Frame} {meth : Method} {c : Code} {A : Nat → Prop} (dC : Nat → ClassId) (dI : Nat → Nat → Nat) (cB cI cJ cZ : ClassId) (a : Nat → Nat) (adK adV : Nat → Nat) (C0 : cxt cX7_alikePairs (some .int) 5 RX7 wsX7_alikePairs (dC, dI) (tyz cB cI cJ cZ) (E_X adK adV) A p s m args meth c) (n : Nat) (ww_latestFault : Int32) (tp_bytes : Nat → Int32) (tp_size : Int32) (rd_fault : Int32) (rd_faultPlace : Int32) (rd_kind : Int32) (rd_start : Int32) (rd_at : Int32) (rd_number : Int32) (dr_letterMarks : Nat → Int32) (dr_names : Nat → Int64) (dr_spelled : Nat → Int32) (dr_rows : Nat → Int64) (dr_alike : Nat → Int32) (dr_near : Nat → Int32) (dr_asks : Nat → Int32) (dr_letters : Int32) (dr_words : Int32) (dr_askCount : Int32) (sh_lanes : Nat → Int32) (sh_sizes : Nat → Int32) (sh_cells : Nat → Int32) (la_xs : Nat → Int32) (la_ys : Nat → Int32) (la_heights : Nat → Int32) (la_ridgeXs : Nat → Int32) (la_ridgeHeights : Nat → Int32) (la_way : Nat → Int32) (la_blurs : Nat → Int32) (la_steps : Nat → Int32) (la_places : Int32) (la_ridges : Int32) (la_wayBlur : Int32) (la_wayLength : Int32) (bk_times : Nat → Int32) (bk_froms : Nat → Int32) (bk_asks : Nat → Int32) (bk_words : Nat → Int32) (bk_firsts : Nat → Int32) (bk_lies : Nat → Int32) (bk_held : Nat → Int32) (bk_size : Int32) (nu_learned : Nat → Int32) (nu_size : Int32) (to_letterMarks : Nat → Int32) (to_names : Nat → Int64) (to_spelled : Nat → Int32) (to_rows : Nat → Int64) (to_alike : Nat → Int32) (to_near : Nat → Int32) (to_asks : Nat → Int32) (to_letters : Int32) (to_words : Int32) (to_askCount : Int32) (x1 : Int32) (x2 : Int32) (r0 : Int32)  : ∀ (k : Nat) (x3 : Int32) (x4 : Int32) (H : Heap) (locs : List Loc) (ls : Array Slot), fX7_alikePairs_p5 n to_alike to_words x1 x2 k x3 x4 = some r0 → va_P (dC, dI) vwCl (wX cB cI cJ cZ a (a 35) (a 4) ww_latestFault tp_bytes tp_size rd_fault rd_faultPlace rd_kind rd_start rd_at rd_number dr_letterMarks dr_names dr_spelled dr_rows dr_alike dr_near dr_asks dr_letters dr_words dr_askCount sh_lanes sh_sizes sh_cells la_xs la_ys la_heights la_ridgeXs la_ridgeHeights la_way la_blurs la_steps la_places la_ridges la_wayBlur la_wayLength bk_times bk_froms bk_asks bk_words bk_firsts bk_lies bk_held bk_size nu_learned nu_size to_letterMarks to_names to_spelled to_rows to_alike to_near to_asks to_letters to_words to_askCount) H → va_D A (wX cB cI cJ cZ a (a 35) (a 4) ww_latestFault tp_bytes tp_size rd_fault rd_faultPlace rd_kind rd_start rd_at rd_number dr_letterMarks dr_names dr_spelled dr_rows dr_alike dr_near dr_asks dr_letters dr_words dr_askCount sh_lanes sh_sizes sh_cells la_xs la_ys la_heights la_ridgeXs la_ridgeHeights la_way la_blurs la_steps la_places la_ridges la_wayBlur la_wayLength bk_times bk_froms bk_asks bk_words bk_firsts bk_lies bk_held bk_size nu_learned nu_size to_letterMarks to_names to_spelled to_rows to_alike to_near to_asks to_letters to_words to_askCount) → va_S A s.heap H locs → lv_has ls 5 [(0, .ref (a 35)), (1, .int x1), (2, .int x2), (3, .int x3), (4, .int x4)] → W p l e { frames := 1, cells := 0, slots := 0, locals := 22 } s m args below meth c H locs 0 0 (MQ below (gI (dC, dI) (tyz cB cI cJ cZ) (wX cB cI cJ cZ a (a 35) (a 4) ww_latestFault tp_bytes tp_size rd_fault rd_faultPlace rd_kind rd_start rd_at rd_number dr_letterMarks dr_names dr_spelled dr_rows dr_alike dr_near dr_asks dr_letters dr_words dr_askCount sh_lanes sh_sizes sh_cells la_xs la_ys la_heights la_ridgeXs la_ridgeHeights la_way la_blurs la_steps la_places la_ridges la_wayBlur la_wayLength bk_times bk_froms bk_asks bk_words bk_firsts bk_lies bk_held bk_size nu_learned nu_size to_letterMarks to_names to_spelled to_rows to_alike to_near to_asks to_letters to_words to_askCount) A r0) args s 0 0 A) (F0 m 5 ls []) := by
  obtain ⟨hx, hb, hr, hml, hown, hts, hlocks, hK, hA, hE⟩ := id C0
  have hw0 := hts (.fieldLink RX7 44 "WhistledWords$Tongue" "words" "I") (by decide +kernel)
  have hw1 := hts (.initialized RX8) (by decide +kernel)
  have hw2 := hts (.static yX8_isIn) (by decide +kernel)
  have hnX7 : ∀ w ∈ u_ws RX7 TX7 10, w ∈ wsX7_alikePairs := fun _ h => List.mem_cons_of_mem _ (List.mem_append_right _ h)
  intro k
  induction k with
  | zero =>
    intro x3 x4 H locs ls h
    cases h
  | succ k ih =>
    intro x3 x4 H locs ls h hP hD hS hl
    rw [fX7_alikePairs_p5] at h
    refine lv_iload hx hb dX7_alikePairs_5 (lv_at hl 4 rfl) ?_
    refine lv_aload_n hx hb dX7_alikePairs_7 rfl (lv_at hl 0 rfl) ?_
    refine gX_told_words hx hb hts hnX7 hown hK hP hw0 dX7_alikePairs_8 ?_
    refine lv_icmp_ge (tgt := 46) hx hb dX7_alikePairs_11 (by decide) (fun c1 => ?_) (fun c1 => ?_)
    · have h := it_use c1 h
      refine lv_iload_n hx hb dX7_alikePairs_46 rfl (lv_at hl 3 rfl) ?_
      refine lv_iconst (v := 2) hx hb dX7_alikePairs_47 (by decide) ?_
      refine lv_idiv hx hb dX7_alikePairs_48 (by decide) ?_
      obtain er := rt1_use h
      exact re_i hx hb hr hlocks hK hP hD hS er dX7_alikePairs_49
    · have h := ie_use c1 h
      refine lv_iload_n hx hb dX7_alikePairs_14 rfl (lv_at hl 1 rfl) ?_
      refine lv_iload hx hb dX7_alikePairs_15 (lv_at hl 4 rfl) ?_
      obtain ⟨v2, hc, h⟩ := bd1_use h
      refine cn_i (As := [.int x1, .int x4]) (rest := []) ⟨hx, hb, hml, hown, hts⟩ (kX8_isIn l n x1 x4 v2 hc) ⟨va_cnB 2 hts ggX7_alikePairs_X8_isIn rfl rfl rfl (hE.1.2.2) hw1 (by decide +kernel) ⟨Nat.le_of_ble_eq_true rfl, Nat.le_of_ble_eq_true rfl⟩, hw2, trivial⟩ hP hS rfl hl.1 rfl (Nat.le_of_ble_eq_true rfl) dX7_alikePairs_17 ⟨Nat.zero_le _, Nat.zero_le _⟩ (fun H locs hP hS => ?_)
      refine lv_if_eq (tgt := 40) hx hb dX7_alikePairs_20 (by decide) (fun c3 => ?_) (fun c3 => ?_)
      · have h := it_use c3 h
        refine lv_iinc (v := x4 + 1) (lv' := [(4, .int (x4 + 1)), (0, .ref (a 35)), (1, .int x1), (2, .int x2), (3, .int x3)]) hx hb dX7_alikePairs_40 hl (k := 4) rfl rfl (by decide) rfl (fun ls hl => ?_)
        refine lv_goto (tgt := 5) hx hb dX7_alikePairs_43 (by decide) ?_
        exact ih x3 (x4 + 1) _ _ ls h hP hD hS (lv_sub hl [1, 2, 3, 4, 0] rfl)
      · have h := ie_use c3 h
        refine lv_iload_n hx hb dX7_alikePairs_23 rfl (lv_at hl 3 rfl) ?_
        refine lv_aload_n hx hb dX7_alikePairs_24 rfl (lv_at hl 0 rfl) ?_
        refine lv_iload hx hb dX7_alikePairs_25 (lv_at hl 4 rfl) ?_
        refine lv_iload_n hx hb dX7_alikePairs_27 rfl (lv_at hl 2 rfl) ?_
        obtain ⟨v4, hc, h⟩ := bd1_use h
        refine cv_i (As := [.int x4, .int x2]) (rest := [.int x3]) ⟨hx, hb, hml, hown, hts⟩ (kX7_alikeTo l n dC dI cB cI cJ cZ a adK adV _ ww_latestFault tp_bytes tp_size rd_fault rd_faultPlace rd_kind rd_start rd_at rd_number dr_letterMarks dr_names dr_spelled dr_rows dr_alike dr_near dr_asks dr_letters dr_words dr_askCount sh_lanes sh_sizes sh_cells la_xs la_ys la_heights la_ridgeXs la_ridgeHeights la_way la_blurs la_steps la_places la_ridges la_wayBlur la_wayLength bk_times bk_froms bk_asks bk_words bk_firsts bk_lies bk_held bk_size nu_learned nu_size to_letterMarks to_names to_spelled to_rows to_alike to_near to_asks to_letters to_words to_askCount x4 x2 v4 hc) (cwV 2 hts gX7_alikePairs_X7_alikeTo rfl rfl rfl (by decide +kernel) ⟨Nat.le_of_ble_eq_true rfl, Nat.le_of_ble_eq_true rfl⟩) EB_X hE hK hP hD hS hA 35 (ci := 6) rfl rfl rfl rfl hl.1 rfl (Nat.le_of_ble_eq_true rfl) dX7_alikePairs_28 ⟨Nat.zero_le _, Nat.zero_le _⟩ (fun H locs hP hD hS => ?_)
        refine lv_iload_n hx hb dX7_alikePairs_31 rfl (lv_at hl 1 rfl) ?_
        refine lv_iand hx hb dX7_alikePairs_32 ?_
        obtain ⟨v5, hc, h⟩ := bd1_use h
        refine cs_i (As := [.int (v4 &&& x1)]) (rest := [.int x3]) ⟨hx, hb, hml, hown, hts⟩ (kJ6_bitCount_0f7a4 l n (v4 &&& x1) v5 hc) (va_cwS 1 hts gX7_alikePairs_J6_bitCount_0f7a4 rfl rfl rfl (by decide +kernel) ⟨Nat.le_of_ble_eq_true rfl, Nat.le_of_ble_eq_true rfl⟩) hP hS rfl hl.1 rfl (Nat.le_of_ble_eq_true rfl) dX7_alikePairs_33 ⟨Nat.zero_le _, Nat.zero_le _⟩ (fun H locs hP hS => ?_)
        refine lv_iconst (v := 1) hx hb dX7_alikePairs_36 (by decide) ?_
        refine lv_isub hx hb dX7_alikePairs_37 ?_
        refine lv_iadd hx hb dX7_alikePairs_38 ?_
        refine lv_topi (fun v6 ev6 => ?_)
        have h := nm_use ev6 h
        refine lv_istore_n (lv' := [(3, .int v6), (0, .ref (a 35)), (1, .int x1), (2, .int x2), (4, .int x4)]) hx hb dX7_alikePairs_39 rfl hl (by decide) rfl (fun ls hl => ?_)
        refine lv_iinc (v := x4 + 1) (lv' := [(4, .int (x4 + 1)), (3, .int v6), (0, .ref (a 35)), (1, .int x1), (2, .int x2)]) hx hb dX7_alikePairs_40 hl (k := 4) rfl rfl (by decide) rfl (fun ls hl => ?_)
        refine lv_goto (tgt := 5) hx hb dX7_alikePairs_43 (by decide) ?_
        exact ih v6 (x4 + 1) _ _ ls h hP hD hS (lv_sub hl [2, 3, 4, 1, 0] rfl)
theorem kX7_alikePairs_p5 {p : Program} {l : Launch} {e : Env} {s : State} {m : MethodId} {args : Array Value} {below : List Frame} {meth : Method} {c : Code} {A : Nat → Prop} (dC : Nat → ClassId) (dI : Nat → Nat → Nat) (cB cI cJ cZ : ClassId) (a : Nat → Nat) (adK adV : Nat → Nat) (C0 : cxt cX7_alikePairs (some .int) 5 RX7 wsX7_alikePairs (dC, dI) (tyz cB cI cJ cZ) (E_X adK adV) A p s m args meth c) (n : Nat) (ww_latestFault : Int32) (tp_bytes : Nat → Int32) (tp_size : Int32) (rd_fault : Int32) (rd_faultPlace : Int32) (rd_kind : Int32) (rd_start : Int32) (rd_at : Int32) (rd_number : Int32) (dr_letterMarks : Nat → Int32) (dr_names : Nat → Int64) (dr_spelled : Nat → Int32) (dr_rows : Nat → Int64) (dr_alike : Nat → Int32) (dr_near : Nat → Int32) (dr_asks : Nat → Int32) (dr_letters : Int32) (dr_words : Int32) (dr_askCount : Int32) (sh_lanes : Nat → Int32) (sh_sizes : Nat → Int32) (sh_cells : Nat → Int32) (la_xs : Nat → Int32) (la_ys : Nat → Int32) (la_heights : Nat → Int32) (la_ridgeXs : Nat → Int32) (la_ridgeHeights : Nat → Int32) (la_way : Nat → Int32) (la_blurs : Nat → Int32) (la_steps : Nat → Int32) (la_places : Int32) (la_ridges : Int32) (la_wayBlur : Int32) (la_wayLength : Int32) (bk_times : Nat → Int32) (bk_froms : Nat → Int32) (bk_asks : Nat → Int32) (bk_words : Nat → Int32) (bk_firsts : Nat → Int32) (bk_lies : Nat → Int32) (bk_held : Nat → Int32) (bk_size : Int32) (nu_learned : Nat → Int32) (nu_size : Int32) (to_letterMarks : Nat → Int32) (to_names : Nat → Int64) (to_spelled : Nat → Int32) (to_rows : Nat → Int64) (to_alike : Nat → Int32) (to_near : Nat → Int32) (to_asks : Nat → Int32) (to_letters : Int32) (to_words : Int32) (to_askCount : Int32)  (x1 : Int32) (x2 : Int32) (x3 : Int32) (x4 : Int32) (r0 : Int32)  (k : Nat) (H : Heap) (locs : List Loc) (ls : Array Slot) : fX7_alikePairs_p5 n to_alike to_words x1 x2 k x3 x4 = some r0 → va_P (dC, dI) vwCl (wX cB cI cJ cZ a (a 35) (a 4) ww_latestFault tp_bytes tp_size rd_fault rd_faultPlace rd_kind rd_start rd_at rd_number dr_letterMarks dr_names dr_spelled dr_rows dr_alike dr_near dr_asks dr_letters dr_words dr_askCount sh_lanes sh_sizes sh_cells la_xs la_ys la_heights la_ridgeXs la_ridgeHeights la_way la_blurs la_steps la_places la_ridges la_wayBlur la_wayLength bk_times bk_froms bk_asks bk_words bk_firsts bk_lies bk_held bk_size nu_learned nu_size to_letterMarks to_names to_spelled to_rows to_alike to_near to_asks to_letters to_words to_askCount) H → va_D A (wX cB cI cJ cZ a (a 35) (a 4) ww_latestFault tp_bytes tp_size rd_fault rd_faultPlace rd_kind rd_start rd_at rd_number dr_letterMarks dr_names dr_spelled dr_rows dr_alike dr_near dr_asks dr_letters dr_words dr_askCount sh_lanes sh_sizes sh_cells la_xs la_ys la_heights la_ridgeXs la_ridgeHeights la_way la_blurs la_steps la_places la_ridges la_wayBlur la_wayLength bk_times bk_froms bk_asks bk_words bk_firsts bk_lies bk_held bk_size nu_learned nu_size to_letterMarks to_names to_spelled to_rows to_alike to_near to_asks to_letters to_words to_askCount) → va_S A s.heap H locs → lv_has ls 5 [(0, .ref (a 35)), (1, .int x1), (2, .int x2), (3, .int x3), (4, .int x4)] → W p l e { frames := 1, cells := 0, slots := 0, locals := 22 } s m args below meth c H locs 0 0 (MQ below (gI (dC, dI) (tyz cB cI cJ cZ) (wX cB cI cJ cZ a (a 35) (a 4) ww_latestFault tp_bytes tp_size rd_fault rd_faultPlace rd_kind rd_start rd_at rd_number dr_letterMarks dr_names dr_spelled dr_rows dr_alike dr_near dr_asks dr_letters dr_words dr_askCount sh_lanes sh_sizes sh_cells la_xs la_ys la_heights la_ridgeXs la_ridgeHeights la_way la_blurs la_steps la_places la_ridges la_wayBlur la_wayLength bk_times bk_froms bk_asks bk_words bk_firsts bk_lies bk_held bk_size nu_learned nu_size to_letterMarks to_names to_spelled to_rows to_alike to_near to_asks to_letters to_words to_askCount) A r0) args s 0 0 A) (F0 m 5 ls []) :=
  kX7_alikePairs_p5_r dC dI cB cI cJ cZ a adK adV C0 n ww_latestFault tp_bytes tp_size rd_fault rd_faultPlace rd_kind rd_start rd_at rd_number dr_letterMarks dr_names dr_spelled dr_rows dr_alike dr_near dr_asks dr_letters dr_words dr_askCount sh_lanes sh_sizes sh_cells la_xs la_ys la_heights la_ridgeXs la_ridgeHeights la_way la_blurs la_steps la_places la_ridges la_wayBlur la_wayLength bk_times bk_froms bk_asks bk_words bk_firsts bk_lies bk_held bk_size nu_learned nu_size to_letterMarks to_names to_spelled to_rows to_alike to_near to_asks to_letters to_words to_askCount x1 x2 r0  k x3 x4 H locs ls
set_option maxHeartbeats 4000000 in
set_option maxRecDepth 100000 in
theorem kX7_alikePairs (l : Launch) (n : Nat) (dC : Nat → ClassId) (dI : Nat → Nat → Nat) (cB cI cJ cZ : ClassId) (a : Nat → Nat) (adK adV : Nat → Nat) (sz : Nat) (ww_latestFault : Int32) (tp_bytes : Nat → Int32) (tp_size : Int32) (rd_fault : Int32) (rd_faultPlace : Int32) (rd_kind : Int32) (rd_start : Int32) (rd_at : Int32) (rd_number : Int32) (dr_letterMarks : Nat → Int32) (dr_names : Nat → Int64) (dr_spelled : Nat → Int32) (dr_rows : Nat → Int64) (dr_alike : Nat → Int32) (dr_near : Nat → Int32) (dr_asks : Nat → Int32) (dr_letters : Int32) (dr_words : Int32) (dr_askCount : Int32) (sh_lanes : Nat → Int32) (sh_sizes : Nat → Int32) (sh_cells : Nat → Int32) (la_xs : Nat → Int32) (la_ys : Nat → Int32) (la_heights : Nat → Int32) (la_ridgeXs : Nat → Int32) (la_ridgeHeights : Nat → Int32) (la_way : Nat → Int32) (la_blurs : Nat → Int32) (la_steps : Nat → Int32) (la_places : Int32) (la_ridges : Int32) (la_wayBlur : Int32) (la_wayLength : Int32) (bk_times : Nat → Int32) (bk_froms : Nat → Int32) (bk_asks : Nat → Int32) (bk_words : Nat → Int32) (bk_firsts : Nat → Int32) (bk_lies : Nat → Int32) (bk_held : Nat → Int32) (bk_size : Int32) (nu_learned : Nat → Int32) (nu_size : Int32) (to_letterMarks : Nat → Int32) (to_names : Nat → Int64) (to_spelled : Nat → Int32) (to_rows : Nat → Int64) (to_alike : Nat → Int32) (to_near : Nat → Int32) (to_asks : Nat → Int32) (to_letters : Int32) (to_words : Int32) (to_askCount : Int32) (x1 : Int32) (x2 : Int32) (r0 : Int32) (h : fX7_alikePairs n to_alike to_words x1 x2 = some r0) : Met l yX7_alikePairs wsX7_alikePairs ({ frames := 1, cells := 0, slots := 0, locals := 22 }) (gP (dC, dI) (tyz cB cI cJ cZ) (E_X adK adV) (wX cB cI cJ cZ a (a 35) (a 4) ww_latestFault tp_bytes tp_size rd_fault rd_faultPlace rd_kind rd_start rd_at rd_number dr_letterMarks dr_names dr_spelled dr_rows dr_alike dr_near dr_asks dr_letters dr_words dr_askCount sh_lanes sh_sizes sh_cells la_xs la_ys la_heights la_ridgeXs la_ridgeHeights la_way la_blurs la_steps la_places la_ridges la_wayBlur la_wayLength bk_times bk_froms bk_asks bk_words bk_firsts bk_lies bk_held bk_size nu_learned nu_size to_letterMarks to_names to_spelled to_rows to_alike to_near to_asks to_letters to_words to_askCount) sz [.ref (a 35), .int x1, .int x2]) (gI (dC, dI) (tyz cB cI cJ cZ) (wX cB cI cJ cZ a (a 35) (a 4) ww_latestFault tp_bytes tp_size rd_fault rd_faultPlace rd_kind rd_start rd_at rd_number dr_letterMarks dr_names dr_spelled dr_rows dr_alike dr_near dr_asks dr_letters dr_words dr_askCount sh_lanes sh_sizes sh_cells la_xs la_ys la_heights la_ridgeXs la_ridgeHeights la_way la_blurs la_steps la_places la_ridges la_wayBlur la_wayLength bk_times bk_froms bk_asks bk_words bk_firsts bk_lies bk_held bk_size nu_learned nu_size to_letterMarks to_names to_spelled to_rows to_alike to_near to_asks to_letters to_words to_askCount) (va_A (wX cB cI cJ cZ a (a 35) (a 4) ww_latestFault tp_bytes tp_size rd_fault rd_faultPlace rd_kind rd_start rd_at rd_number dr_letterMarks dr_names dr_spelled dr_rows dr_alike dr_near dr_asks dr_letters dr_words dr_askCount sh_lanes sh_sizes sh_cells la_xs la_ys la_heights la_ridgeXs la_ridgeHeights la_way la_blurs la_steps la_places la_ridges la_wayBlur la_wayLength bk_times bk_froms bk_asks bk_words bk_firsts bk_lies bk_held bk_size nu_learned nu_size to_letterMarks to_names to_spelled to_rows to_alike to_near to_asks to_letters to_words to_askCount) sz) r0) 0 0 (va_A (wX cB cI cJ cZ a (a 35) (a 4) ww_latestFault tp_bytes tp_size rd_fault rd_faultPlace rd_kind rd_start rd_at rd_number dr_letterMarks dr_names dr_spelled dr_rows dr_alike dr_near dr_asks dr_letters dr_words dr_askCount sh_lanes sh_sizes sh_cells la_xs la_ys la_heights la_ridgeXs la_ridgeHeights la_way la_blurs la_steps la_places la_ridges la_wayBlur la_wayLength bk_times bk_froms bk_asks bk_words bk_firsts bk_lies bk_held bk_size nu_learned nu_size to_letterMarks to_names to_spelled to_rows to_alike to_near to_asks to_letters to_words to_askCount) sz) := by
  refine Met.ofW (cc := cX7_alikePairs) (maxL := 5) (ret := (some .int)) (by decide) rfl ?_
  intro p e s m args below meth c s₁ B hml hv
  obtain ⟨rfl, hsz, hP, hK, hD0, hE⟩ := hv
  have hx := B.exec
  have hb := B.bytes
  have hr := B.returns
  have hts := atoms_spec (ws := wsX7_alikePairs) B.pre
  have hown : s.vm.findClass RX7 = some m.cls := findClass_of_methodNamed B.named
  have hlocks := B.notSynchronized
  subst hsz
  have hD := hD0.self (sz := s.heap.size)
  have hA : ∀ q : Nat, s.heap.size ≤ q → va_A (wX cB cI cJ cZ a (a 35) (a 4) ww_latestFault tp_bytes tp_size rd_fault rd_faultPlace rd_kind rd_start rd_at rd_number dr_letterMarks dr_names dr_spelled dr_rows dr_alike dr_near dr_asks dr_letters dr_words dr_askCount sh_lanes sh_sizes sh_cells la_xs la_ys la_heights la_ridgeXs la_ridgeHeights la_way la_blurs la_steps la_places la_ridges la_wayBlur la_wayLength bk_times bk_froms bk_asks bk_words bk_firsts bk_lies bk_held bk_size nu_learned nu_size to_letterMarks to_names to_spelled to_rows to_alike to_near to_asks to_letters to_words to_askCount) s.heap.size q := fun q h => Or.inr h
  generalize va_A (wX cB cI cJ cZ a (a 35) (a 4) ww_latestFault tp_bytes tp_size rd_fault rd_faultPlace rd_kind rd_start rd_at rd_number dr_letterMarks dr_names dr_spelled dr_rows dr_alike dr_near dr_asks dr_letters dr_words dr_askCount sh_lanes sh_sizes sh_cells la_xs la_ys la_heights la_ridgeXs la_ridgeHeights la_way la_blurs la_steps la_places la_ridges la_wayBlur la_wayLength bk_times bk_froms bk_asks bk_words bk_firsts bk_lies bk_held bk_size nu_learned nu_size to_letterMarks to_names to_spelled to_rows to_alike to_near to_asks to_letters to_words to_askCount) s.heap.size = A at hD hA hE ⊢
  have hS : va_S A s.heap s.heap [] := va_S.rf
  have C0 : cxt cX7_alikePairs (some .int) 5 RX7 wsX7_alikePairs (dC, dI) (tyz cB cI cJ cZ) (E_X adK adV) A p s m ([.ref (a 35), .int x1, .int x2] : List Value).toArray meth c := ⟨hx, hb, hr, hml, hown, hts, hlocks, hK, hA, hE⟩
  have hl := lv_entry ([.ref (a 35), .int x1, .int x2]) (n := 5) (Nat.le_of_ble_eq_true rfl)
  rw [lg_entry_eq]
  generalize (lg_sl ([.ref (a 35), .int x1, .int x2]) ++ List.replicate (5 - (lg_sl ([.ref (a 35), .int x1, .int x2])).length) Slot.unset).toArray = ls at hl ⊢
  have hl : lv_has ls 5 [(0, .ref (a 35)), (1, .int x1), (2, .int x2)] := hl
  unfold fX7_alikePairs at h
  refine lv_iconst (v := 0) hx hb dX7_alikePairs_0 (by decide) ?_
  refine lv_istore_n (lv' := [(3, .int (0 : Int32)), (0, .ref (a 35)), (1, .int x1), (2, .int x2)]) hx hb dX7_alikePairs_1 rfl hl (by decide) rfl (fun ls hl => ?_)
  refine lv_iconst (v := 0) hx hb dX7_alikePairs_2 (by decide) ?_
  refine lv_istore (lv' := [(4, .int (0 : Int32)), (3, .int (0 : Int32)), (0, .ref (a 35)), (1, .int x1), (2, .int x2)]) hx hb dX7_alikePairs_3 hl (by decide) rfl (fun ls hl => ?_)
  exact kX7_alikePairs_p5 dC dI cB cI cJ cZ a adK adV C0 n ww_latestFault tp_bytes tp_size rd_fault rd_faultPlace rd_kind rd_start rd_at rd_number dr_letterMarks dr_names dr_spelled dr_rows dr_alike dr_near dr_asks dr_letters dr_words dr_askCount sh_lanes sh_sizes sh_cells la_xs la_ys la_heights la_ridgeXs la_ridgeHeights la_way la_blurs la_steps la_places la_ridges la_wayBlur la_wayLength bk_times bk_froms bk_asks bk_words bk_firsts bk_lies bk_held bk_size nu_learned nu_size to_letterMarks to_names to_spelled to_rows to_alike to_near to_asks to_letters to_words to_askCount x1 x2 (0 : Int32) (0 : Int32) r0  n _ _ ls h hP hD hS (lv_sub hl [2, 3, 4, 1, 0] rfl)
set_option maxHeartbeats 4000000 in
set_option maxRecDepth 100000 in
theorem kX8_cut_p62 {p : Program} {l : Launch} {e : Env} {s : State} {m : MethodId} {args : Array Value} {below : List Frame} {meth : Method} {c : Code} {A : Nat → Prop} (dC : Nat → ClassId) (dI : Nat → Nat → Nat) (cB cI cJ cZ : ClassId) (a : Nat → Nat) (adK adV : Nat → Nat) (C0 : cxt cX8_cut (some .int) 6 RX8 wsX8_cut (dC, dI) (tyz cB cI cJ cZ) (E_X adK adV) A p s m args meth c) (n : Nat) (ww_latestFault : Int32) (tp_bytes : Nat → Int32) (tp_size : Int32) (rd_fault : Int32) (rd_faultPlace : Int32) (rd_kind : Int32) (rd_start : Int32) (rd_at : Int32) (rd_number : Int32) (dr_letterMarks : Nat → Int32) (dr_names : Nat → Int64) (dr_spelled : Nat → Int32) (dr_rows : Nat → Int64) (dr_alike : Nat → Int32) (dr_near : Nat → Int32) (dr_asks : Nat → Int32) (dr_letters : Int32) (dr_words : Int32) (dr_askCount : Int32) (sh_lanes : Nat → Int32) (sh_sizes : Nat → Int32) (sh_cells : Nat → Int32) (la_xs : Nat → Int32) (la_ys : Nat → Int32) (la_heights : Nat → Int32) (la_ridgeXs : Nat → Int32) (la_ridgeHeights : Nat → Int32) (la_way : Nat → Int32) (la_blurs : Nat → Int32) (la_steps : Nat → Int32) (la_places : Int32) (la_ridges : Int32) (la_wayBlur : Int32) (la_wayLength : Int32) (bk_times : Nat → Int32) (bk_froms : Nat → Int32) (bk_asks : Nat → Int32) (bk_words : Nat → Int32) (bk_firsts : Nat → Int32) (bk_lies : Nat → Int32) (bk_held : Nat → Int32) (bk_size : Int32) (nu_learned : Nat → Int32) (nu_size : Int32) (to_letterMarks : Nat → Int32) (to_names : Nat → Int64) (to_spelled : Nat → Int32) (to_rows : Nat → Int64) (to_alike : Nat → Int32) (to_near : Nat → Int32) (to_asks : Nat → Int32) (to_letters : Int32) (to_words : Int32) (to_askCount : Int32)  (x2 : Int32) (x3 : Int32) (s0 : Int32) (r0 : Int32)  (H : Heap) (locs : List Loc) (ls : Array Slot) : fX8_cut_p62 n to_alike to_words x2 x3 s0 = some r0 → va_P (dC, dI) vwCl (wX cB cI cJ cZ a (a 35) (a 4) ww_latestFault tp_bytes tp_size rd_fault rd_faultPlace rd_kind rd_start rd_at rd_number dr_letterMarks dr_names dr_spelled dr_rows dr_alike dr_near dr_asks dr_letters dr_words dr_askCount sh_lanes sh_sizes sh_cells la_xs la_ys la_heights la_ridgeXs la_ridgeHeights la_way la_blurs la_steps la_places la_ridges la_wayBlur la_wayLength bk_times bk_froms bk_asks bk_words bk_firsts bk_lies bk_held bk_size nu_learned nu_size to_letterMarks to_names to_spelled to_rows to_alike to_near to_asks to_letters to_words to_askCount) H → va_D A (wX cB cI cJ cZ a (a 35) (a 4) ww_latestFault tp_bytes tp_size rd_fault rd_faultPlace rd_kind rd_start rd_at rd_number dr_letterMarks dr_names dr_spelled dr_rows dr_alike dr_near dr_asks dr_letters dr_words dr_askCount sh_lanes sh_sizes sh_cells la_xs la_ys la_heights la_ridgeXs la_ridgeHeights la_way la_blurs la_steps la_places la_ridges la_wayBlur la_wayLength bk_times bk_froms bk_asks bk_words bk_firsts bk_lies bk_held bk_size nu_learned nu_size to_letterMarks to_names to_spelled to_rows to_alike to_near to_asks to_letters to_words to_askCount) → va_S A s.heap H locs → lv_has ls 6 [(0, .ref (a 0)), (2, .int x2), (3, .int x3)] → W p l e { frames := 2, cells := 0, slots := 0, locals := 46 } s m args below meth c H locs 0 0 (MQ below (gI (dC, dI) (tyz cB cI cJ cZ) (wX cB cI cJ cZ a (a 35) (a 4) ww_latestFault tp_bytes tp_size rd_fault rd_faultPlace rd_kind rd_start rd_at rd_number dr_letterMarks dr_names dr_spelled dr_rows dr_alike dr_near dr_asks dr_letters dr_words dr_askCount sh_lanes sh_sizes sh_cells la_xs la_ys la_heights la_ridgeXs la_ridgeHeights la_way la_blurs la_steps la_places la_ridges la_wayBlur la_wayLength bk_times bk_froms bk_asks bk_words bk_firsts bk_lies bk_held bk_size nu_learned nu_size to_letterMarks to_names to_spelled to_rows to_alike to_near to_asks to_letters to_words to_askCount) A r0) args s 0 0 A) (F0 m 62 ls [.int s0]) := by
  intro h hP hD hS hl
  obtain ⟨hx, hb, hr, hml, hown, hts, hlocks, hK, hA, hE⟩ := id C0
  have hw0 := hts (.fieldLink RX8 60 "WhistledWords" "told" "LWhistledWords$Tongue;") (by decide +kernel)
  have hnX8 : ∀ w ∈ u_ws RX8 TX8 8, w ∈ wsX8_cut := fun _ h => List.mem_cons_of_mem _ (List.mem_append_left _ (List.mem_append_right _ h))
  unfold fX8_cut_p62 at h
  refine lv_istore (lv' := [(5, .int s0), (0, .ref (a 0)), (2, .int x2), (3, .int x3)]) hx hb dX8_cut_62 hl (by decide) rfl (fun ls hl => ?_)
  refine lv_iload_n hx hb dX8_cut_64 rfl (lv_at hl 3 rfl) ?_
  by_cases c1 : x3 = 0
  · have h := it_use c1 h
    refine lv_tableIn (tgt := 92) hx hb dX8_cut_65 (by rw [c1]; decide) (by rw [c1]; decide) (by rw [c1]; rfl) (by decide) ?_
    refine lv_aload_n hx hb dX8_cut_92 rfl (lv_at hl 1 rfl) ?_
    refine gX_ww_told hx hb hts hnX8 hown hK hP hw0 dX8_cut_93 ?_
    refine lv_iload hx hb dX8_cut_96 (lv_at hl 0 rfl) ?_
    refine lv_iload_n hx hb dX8_cut_98 rfl (lv_at hl 2 rfl) ?_
    obtain ⟨v2, hc, h⟩ := bd1_use h
    refine cv_i (As := [.int s0, .int x2]) (rest := []) ⟨hx, hb, hml, hown, hts⟩ (kX7_cutOf l n dC dI cB cI cJ cZ a adK adV _ ww_latestFault tp_bytes tp_size rd_fault rd_faultPlace rd_kind rd_start rd_at rd_number dr_letterMarks dr_names dr_spelled dr_rows dr_alike dr_near dr_asks dr_letters dr_words dr_askCount sh_lanes sh_sizes sh_cells la_xs la_ys la_heights la_ridgeXs la_ridgeHeights la_way la_blurs la_steps la_places la_ridges la_wayBlur la_wayLength bk_times bk_froms bk_asks bk_words bk_firsts bk_lies bk_held bk_size nu_learned nu_size to_letterMarks to_names to_spelled to_rows to_alike to_near to_asks to_letters to_words to_askCount s0 x2 v2 hc) (cwV 2 hts gX8_cut_X7_cutOf rfl rfl rfl (by decide +kernel) ⟨Nat.le_of_ble_eq_true rfl, Nat.le_of_ble_eq_true rfl⟩) EB_X hE hK hP hD hS hA 35 (ci := 6) rfl rfl rfl rfl hl.1 rfl (Nat.le_of_ble_eq_true rfl) dX8_cut_99 ⟨Nat.zero_le _, Nat.zero_le _⟩ (fun H locs hP hD hS => ?_)
    obtain ⟨v3, hc, h⟩ := bd1_use h
    refine cs_i (As := [.int v2]) (rest := []) ⟨hx, hb, hml, hown, hts⟩ (kJ6_bitCount_0f7a4 l n v2 v3 hc) (va_cwS 1 hts gX8_cut_J6_bitCount_0f7a4 rfl rfl rfl (by decide +kernel) ⟨Nat.le_of_ble_eq_true rfl, Nat.le_of_ble_eq_true rfl⟩) hP hS rfl hl.1 rfl (Nat.le_of_ble_eq_true rfl) dX8_cut_102 ⟨Nat.zero_le _, Nat.zero_le _⟩ (fun H locs hP hS => ?_)
    obtain er := rt1_use h
    exact re_i hx hb hr hlocks hK hP hD hS er dX8_cut_105
  · have h := ie_use c1 h
    have nc1 := sw_ne c1
    by_cases c4 : x3 = 1
    · have h := it_use c4 h
      refine lv_tableIn (tgt := 106) hx hb dX8_cut_65 (by rw [c4]; decide) (by rw [c4]; decide) (by rw [c4]; rfl) (by decide) ?_
      refine lv_aload_n hx hb dX8_cut_106 rfl (lv_at hl 1 rfl) ?_
      refine gX_ww_told hx hb hts hnX8 hown hK hP hw0 dX8_cut_107 ?_
      refine lv_iload hx hb dX8_cut_110 (lv_at hl 0 rfl) ?_
      refine lv_iload_n hx hb dX8_cut_112 rfl (lv_at hl 2 rfl) ?_
      obtain ⟨v5, hc, h⟩ := bd1_use h
      refine cv_i (As := [.int s0, .int x2]) (rest := []) ⟨hx, hb, hml, hown, hts⟩ (kX7_cutOf l n dC dI cB cI cJ cZ a adK adV _ ww_latestFault tp_bytes tp_size rd_fault rd_faultPlace rd_kind rd_start rd_at rd_number dr_letterMarks dr_names dr_spelled dr_rows dr_alike dr_near dr_asks dr_letters dr_words dr_askCount sh_lanes sh_sizes sh_cells la_xs la_ys la_heights la_ridgeXs la_ridgeHeights la_way la_blurs la_steps la_places la_ridges la_wayBlur la_wayLength bk_times bk_froms bk_asks bk_words bk_firsts bk_lies bk_held bk_size nu_learned nu_size to_letterMarks to_names to_spelled to_rows to_alike to_near to_asks to_letters to_words to_askCount s0 x2 v5 hc) (cwV 2 hts gX8_cut_X7_cutOf rfl rfl rfl (by decide +kernel) ⟨Nat.le_of_ble_eq_true rfl, Nat.le_of_ble_eq_true rfl⟩) EB_X hE hK hP hD hS hA 35 (ci := 6) rfl rfl rfl rfl hl.1 rfl (Nat.le_of_ble_eq_true rfl) dX8_cut_113 ⟨Nat.zero_le _, Nat.zero_le _⟩ (fun H locs hP hD hS => ?_)
      obtain er := rt1_use h
      exact re_i hx hb hr hlocks hK hP hD hS er dX8_cut_116
    · have h := ie_use c4 h
      have nc4 := sw_ne c4
      by_cases c6 : x3 = 2
      · have h := it_use c6 h
        refine lv_tableIn (tgt := 117) hx hb dX8_cut_65 (by rw [c6]; decide) (by rw [c6]; decide) (by rw [c6]; rfl) (by decide) ?_
        refine lv_aload_n hx hb dX8_cut_117 rfl (lv_at hl 1 rfl) ?_
        refine gX_ww_told hx hb hts hnX8 hown hK hP hw0 dX8_cut_118 ?_
        refine lv_iload hx hb dX8_cut_121 (lv_at hl 0 rfl) ?_
        refine lv_iload_n hx hb dX8_cut_123 rfl (lv_at hl 2 rfl) ?_
        obtain ⟨v7, hc, h⟩ := bd1_use h
        refine cv_i (As := [.int s0, .int x2]) (rest := []) ⟨hx, hb, hml, hown, hts⟩ (kX7_alikePairs l n dC dI cB cI cJ cZ a adK adV _ ww_latestFault tp_bytes tp_size rd_fault rd_faultPlace rd_kind rd_start rd_at rd_number dr_letterMarks dr_names dr_spelled dr_rows dr_alike dr_near dr_asks dr_letters dr_words dr_askCount sh_lanes sh_sizes sh_cells la_xs la_ys la_heights la_ridgeXs la_ridgeHeights la_way la_blurs la_steps la_places la_ridges la_wayBlur la_wayLength bk_times bk_froms bk_asks bk_words bk_firsts bk_lies bk_held bk_size nu_learned nu_size to_letterMarks to_names to_spelled to_rows to_alike to_near to_asks to_letters to_words to_askCount s0 x2 v7 hc) (cwV 2 hts gX8_cut_X7_alikePairs rfl rfl rfl (by decide +kernel) ⟨Nat.le_of_ble_eq_true rfl, Nat.le_of_ble_eq_true rfl⟩) EB_X hE hK hP hD hS hA 35 (ci := 6) rfl rfl rfl rfl hl.1 rfl (Nat.le_of_ble_eq_true rfl) dX8_cut_124 ⟨Nat.zero_le _, Nat.zero_le _⟩ (fun H locs hP hD hS => ?_)
        obtain er := rt1_use h
        exact re_i hx hb hr hlocks hK hP hD hS er dX8_cut_127
      · have h := ie_use c6 h
        have nc6 := sw_ne c6
        rw [show (0 : Int32).toInt = 0 from by decide] at nc1
        rw [show (1 : Int32).toInt = 1 from by decide] at nc4
        rw [show (2 : Int32).toInt = 2 from by decide] at nc6
        refine lv_tableOut (tgt := 128) hx hb dX8_cut_65 (by omega) (by decide) ?_
        refine lv_iconst (v := -1) hx hb dX8_cut_128 (by decide) ?_
        obtain er := rt1_use h
        exact re_i hx hb hr hlocks hK hP hD hS er dX8_cut_129
set_option maxHeartbeats 4000000 in
set_option maxRecDepth 100000 in
theorem kX8_cut_p29 {p : Program} {l : Launch} {e : Env} {s : State} {m : MethodId} {args : Array Value} {below : List Frame} {meth : Method} {c : Code} {A : Nat → Prop} (dC : Nat → ClassId) (dI : Nat → Nat → Nat) (cB cI cJ cZ : ClassId) (a : Nat → Nat) (adK adV : Nat → Nat) (C0 : cxt cX8_cut (some .int) 6 RX8 wsX8_cut (dC, dI) (tyz cB cI cJ cZ) (E_X adK adV) A p s m args meth c) (n : Nat) (ww_latestFault : Int32) (tp_bytes : Nat → Int32) (tp_size : Int32) (rd_fault : Int32) (rd_faultPlace : Int32) (rd_kind : Int32) (rd_start : Int32) (rd_at : Int32) (rd_number : Int32) (dr_letterMarks : Nat → Int32) (dr_names : Nat → Int64) (dr_spelled : Nat → Int32) (dr_rows : Nat → Int64) (dr_alike : Nat → Int32) (dr_near : Nat → Int32) (dr_asks : Nat → Int32) (dr_letters : Int32) (dr_words : Int32) (dr_askCount : Int32) (sh_lanes : Nat → Int32) (sh_sizes : Nat → Int32) (sh_cells : Nat → Int32) (la_xs : Nat → Int32) (la_ys : Nat → Int32) (la_heights : Nat → Int32) (la_ridgeXs : Nat → Int32) (la_ridgeHeights : Nat → Int32) (la_way : Nat → Int32) (la_blurs : Nat → Int32) (la_steps : Nat → Int32) (la_places : Int32) (la_ridges : Int32) (la_wayBlur : Int32) (la_wayLength : Int32) (bk_times : Nat → Int32) (bk_froms : Nat → Int32) (bk_asks : Nat → Int32) (bk_words : Nat → Int32) (bk_firsts : Nat → Int32) (bk_lies : Nat → Int32) (bk_held : Nat → Int32) (bk_size : Int32) (nu_learned : Nat → Int32) (nu_size : Int32) (to_letterMarks : Nat → Int32) (to_names : Nat → Int64) (to_spelled : Nat → Int32) (to_rows : Nat → Int64) (to_alike : Nat → Int32) (to_near : Nat → Int32) (to_asks : Nat → Int32) (to_letters : Int32) (to_words : Int32) (to_askCount : Int32)  (x1 : Int32) (x2 : Int32) (x3 : Int32) (x4 : Int32)  (r0 : Int32)  (H : Heap) (locs : List Loc) (ls : Array Slot) : fX8_cut_p29 n to_alike to_asks to_words x1 x2 x3 x4 = some r0 → va_P (dC, dI) vwCl (wX cB cI cJ cZ a (a 35) (a 4) ww_latestFault tp_bytes tp_size rd_fault rd_faultPlace rd_kind rd_start rd_at rd_number dr_letterMarks dr_names dr_spelled dr_rows dr_alike dr_near dr_asks dr_letters dr_words dr_askCount sh_lanes sh_sizes sh_cells la_xs la_ys la_heights la_ridgeXs la_ridgeHeights la_way la_blurs la_steps la_places la_ridges la_wayBlur la_wayLength bk_times bk_froms bk_asks bk_words bk_firsts bk_lies bk_held bk_size nu_learned nu_size to_letterMarks to_names to_spelled to_rows to_alike to_near to_asks to_letters to_words to_askCount) H → va_D A (wX cB cI cJ cZ a (a 35) (a 4) ww_latestFault tp_bytes tp_size rd_fault rd_faultPlace rd_kind rd_start rd_at rd_number dr_letterMarks dr_names dr_spelled dr_rows dr_alike dr_near dr_asks dr_letters dr_words dr_askCount sh_lanes sh_sizes sh_cells la_xs la_ys la_heights la_ridgeXs la_ridgeHeights la_way la_blurs la_steps la_places la_ridges la_wayBlur la_wayLength bk_times bk_froms bk_asks bk_words bk_firsts bk_lies bk_held bk_size nu_learned nu_size to_letterMarks to_names to_spelled to_rows to_alike to_near to_asks to_letters to_words to_askCount) → va_S A s.heap H locs → lv_has ls 6 [(0, .ref (a 0)), (1, .int x1), (2, .int x2), (3, .int x3), (4, .int x4)] → W p l e { frames := 2, cells := 0, slots := 0, locals := 46 } s m args below meth c H locs 0 0 (MQ below (gI (dC, dI) (tyz cB cI cJ cZ) (wX cB cI cJ cZ a (a 35) (a 4) ww_latestFault tp_bytes tp_size rd_fault rd_faultPlace rd_kind rd_start rd_at rd_number dr_letterMarks dr_names dr_spelled dr_rows dr_alike dr_near dr_asks dr_letters dr_words dr_askCount sh_lanes sh_sizes sh_cells la_xs la_ys la_heights la_ridgeXs la_ridgeHeights la_way la_blurs la_steps la_places la_ridges la_wayBlur la_wayLength bk_times bk_froms bk_asks bk_words bk_firsts bk_lies bk_held bk_size nu_learned nu_size to_letterMarks to_names to_spelled to_rows to_alike to_near to_asks to_letters to_words to_askCount) A r0) args s 0 0 A) (F0 m 29 ls []) := by
  intro h hP hD hS hl
  obtain ⟨hx, hb, hr, hml, hown, hts, hlocks, hK, hA, hE⟩ := id C0
  have hw0 := hts (.fieldLink RX8 60 "WhistledWords" "told" "LWhistledWords$Tongue;") (by decide +kernel)
  have hw1 := hts (.fieldLink RX8 131 "WhistledWords$Tongue" "asks" "[I") (by decide +kernel)
  have hnX8 : ∀ w ∈ u_ws RX8 TX8 8, w ∈ wsX8_cut := fun _ h => List.mem_cons_of_mem _ (List.mem_append_left _ (List.mem_append_right _ h))
  have hnX7 : ∀ w ∈ u_ws RX7 TX7 10, w ∈ wsX8_cut := fun _ h => List.mem_cons_of_mem _ (List.mem_append_right _ h)
  unfold fX8_cut_p29 at h
  refine lv_iload_n hx hb dX8_cut_29 rfl (lv_at hl 2 rfl) ?_
  obtain ⟨v1, hc, h⟩ := bd1_use h
  refine cs_i (As := [.int x2]) (rest := []) ⟨hx, hb, hml, hown, hts⟩ (kX8_isBlur l n x2 v1 hc) (va_cwS 1 hts gX8_cut_X8_isBlur rfl rfl rfl (by decide +kernel) ⟨Nat.le_of_ble_eq_true rfl, Nat.le_of_ble_eq_true rfl⟩) hP hS rfl hl.1 rfl (Nat.le_of_ble_eq_true rfl) dX8_cut_30 ⟨Nat.zero_le _, Nat.zero_le _⟩ (fun H locs hP hS => ?_)
  refine lv_if_ne (tgt := 38) hx hb dX8_cut_33 (by decide) (fun c2 => ?_) (fun c2 => ?_)
  · have h := ie_use c2 h
    refine lv_iload hx hb dX8_cut_38 (lv_at hl 4 rfl) ?_
    refine lv_if_eq (tgt := 53) hx hb dX8_cut_40 (by decide) (fun c3 => ?_) (fun c3 => ?_)
    · have h := it_use c3 h
      refine lv_aload_n hx hb dX8_cut_53 rfl (lv_at hl 0 rfl) ?_
      refine gX_ww_told hx hb hts hnX8 hown hK hP hw0 dX8_cut_54 ?_
      refine gX_told_asks hx hb hts hnX7 hown hK hP hw1 dX8_cut_57 ?_
      refine lv_iload_n hx hb dX8_cut_60 rfl (lv_at hl 1 rfl) ?_
      obtain ⟨hiv4, h⟩ := ar_use h
      refine lX_told_asks hx hb hK hP hiv4 dX8_cut_61 ?_
      refine lv_topi (fun v4 ev4 => ?_)
      have h := h v4 ev4
      exact kX8_cut_p62 dC dI cB cI cJ cZ a adK adV C0 n ww_latestFault tp_bytes tp_size rd_fault rd_faultPlace rd_kind rd_start rd_at rd_number dr_letterMarks dr_names dr_spelled dr_rows dr_alike dr_near dr_asks dr_letters dr_words dr_askCount sh_lanes sh_sizes sh_cells la_xs la_ys la_heights la_ridgeXs la_ridgeHeights la_way la_blurs la_steps la_places la_ridges la_wayBlur la_wayLength bk_times bk_froms bk_asks bk_words bk_firsts bk_lies bk_held bk_size nu_learned nu_size to_letterMarks to_names to_spelled to_rows to_alike to_near to_asks to_letters to_words to_askCount x2 x3 v4 r0  _ _ ls h hP hD hS (lv_sub hl [0, 2, 3] rfl)
    · have h := ie_use c3 h
      refine lv_aload_n hx hb dX8_cut_43 rfl (lv_at hl 0 rfl) ?_
      refine gX_ww_told hx hb hts hnX8 hown hK hP hw0 dX8_cut_44 ?_
      obtain ⟨v5, hc, h⟩ := bd1_use h
      refine cv_i (As := []) (rest := []) ⟨hx, hb, hml, hown, hts⟩ (kX7_allWords l n dC dI cB cI cJ cZ a adK adV _ ww_latestFault tp_bytes tp_size rd_fault rd_faultPlace rd_kind rd_start rd_at rd_number dr_letterMarks dr_names dr_spelled dr_rows dr_alike dr_near dr_asks dr_letters dr_words dr_askCount sh_lanes sh_sizes sh_cells la_xs la_ys la_heights la_ridgeXs la_ridgeHeights la_way la_blurs la_steps la_places la_ridges la_wayBlur la_wayLength bk_times bk_froms bk_asks bk_words bk_firsts bk_lies bk_held bk_size nu_learned nu_size to_letterMarks to_names to_spelled to_rows to_alike to_near to_asks to_letters to_words to_askCount  v5 hc) (cwV 0 hts gX8_cut_X7_allWords rfl rfl rfl (by decide +kernel) ⟨Nat.le_of_ble_eq_true rfl, Nat.le_of_ble_eq_true rfl⟩) EB_X hE hK hP hD hS hA 35 (ci := 6) rfl rfl rfl rfl hl.1 rfl (Nat.le_of_ble_eq_true rfl) dX8_cut_47 ⟨Nat.zero_le _, Nat.zero_le _⟩ (fun H locs hP hD hS => ?_)
      refine lv_goto (tgt := 62) hx hb dX8_cut_50 (by decide) ?_
      exact kX8_cut_p62 dC dI cB cI cJ cZ a adK adV C0 n ww_latestFault tp_bytes tp_size rd_fault rd_faultPlace rd_kind rd_start rd_at rd_number dr_letterMarks dr_names dr_spelled dr_rows dr_alike dr_near dr_asks dr_letters dr_words dr_askCount sh_lanes sh_sizes sh_cells la_xs la_ys la_heights la_ridgeXs la_ridgeHeights la_way la_blurs la_steps la_places la_ridges la_wayBlur la_wayLength bk_times bk_froms bk_asks bk_words bk_firsts bk_lies bk_held bk_size nu_learned nu_size to_letterMarks to_names to_spelled to_rows to_alike to_near to_asks to_letters to_words to_askCount x2 x3 v5 r0  _ _ ls h hP hD hS (lv_sub hl [0, 2, 3] rfl)
  · have h := it_use c2 h
    refine lv_iconst (v := -1) hx hb dX8_cut_36 (by decide) ?_
    obtain er := rt1_use h
    exact re_i hx hb hr hlocks hK hP hD hS er dX8_cut_37
set_option maxHeartbeats 4000000 in
set_option maxRecDepth 100000 in
theorem kX8_cut (l : Launch) (n : Nat) (dC : Nat → ClassId) (dI : Nat → Nat → Nat) (cB cI cJ cZ : ClassId) (a : Nat → Nat) (adK adV : Nat → Nat) (sz : Nat) (ww_latestFault : Int32) (tp_bytes : Nat → Int32) (tp_size : Int32) (rd_fault : Int32) (rd_faultPlace : Int32) (rd_kind : Int32) (rd_start : Int32) (rd_at : Int32) (rd_number : Int32) (dr_letterMarks : Nat → Int32) (dr_names : Nat → Int64) (dr_spelled : Nat → Int32) (dr_rows : Nat → Int64) (dr_alike : Nat → Int32) (dr_near : Nat → Int32) (dr_asks : Nat → Int32) (dr_letters : Int32) (dr_words : Int32) (dr_askCount : Int32) (sh_lanes : Nat → Int32) (sh_sizes : Nat → Int32) (sh_cells : Nat → Int32) (la_xs : Nat → Int32) (la_ys : Nat → Int32) (la_heights : Nat → Int32) (la_ridgeXs : Nat → Int32) (la_ridgeHeights : Nat → Int32) (la_way : Nat → Int32) (la_blurs : Nat → Int32) (la_steps : Nat → Int32) (la_places : Int32) (la_ridges : Int32) (la_wayBlur : Int32) (la_wayLength : Int32) (bk_times : Nat → Int32) (bk_froms : Nat → Int32) (bk_asks : Nat → Int32) (bk_words : Nat → Int32) (bk_firsts : Nat → Int32) (bk_lies : Nat → Int32) (bk_held : Nat → Int32) (bk_size : Int32) (nu_learned : Nat → Int32) (nu_size : Int32) (to_letterMarks : Nat → Int32) (to_names : Nat → Int64) (to_spelled : Nat → Int32) (to_rows : Nat → Int64) (to_alike : Nat → Int32) (to_near : Nat → Int32) (to_asks : Nat → Int32) (to_letters : Int32) (to_words : Int32) (to_askCount : Int32) (x1 : Int32) (x2 : Int32) (x3 : Int32) (r0 : Int32) (h : fX8_cut n to_alike to_asks to_words to_askCount x1 x2 x3 = some r0) : Met l yX8_cut wsX8_cut ({ frames := 2, cells := 0, slots := 0, locals := 46 }) (gP (dC, dI) (tyz cB cI cJ cZ) (E_X adK adV) (wX cB cI cJ cZ a (a 35) (a 4) ww_latestFault tp_bytes tp_size rd_fault rd_faultPlace rd_kind rd_start rd_at rd_number dr_letterMarks dr_names dr_spelled dr_rows dr_alike dr_near dr_asks dr_letters dr_words dr_askCount sh_lanes sh_sizes sh_cells la_xs la_ys la_heights la_ridgeXs la_ridgeHeights la_way la_blurs la_steps la_places la_ridges la_wayBlur la_wayLength bk_times bk_froms bk_asks bk_words bk_firsts bk_lies bk_held bk_size nu_learned nu_size to_letterMarks to_names to_spelled to_rows to_alike to_near to_asks to_letters to_words to_askCount) sz [.ref (a 0), .int x1, .int x2, .int x3]) (gI (dC, dI) (tyz cB cI cJ cZ) (wX cB cI cJ cZ a (a 35) (a 4) ww_latestFault tp_bytes tp_size rd_fault rd_faultPlace rd_kind rd_start rd_at rd_number dr_letterMarks dr_names dr_spelled dr_rows dr_alike dr_near dr_asks dr_letters dr_words dr_askCount sh_lanes sh_sizes sh_cells la_xs la_ys la_heights la_ridgeXs la_ridgeHeights la_way la_blurs la_steps la_places la_ridges la_wayBlur la_wayLength bk_times bk_froms bk_asks bk_words bk_firsts bk_lies bk_held bk_size nu_learned nu_size to_letterMarks to_names to_spelled to_rows to_alike to_near to_asks to_letters to_words to_askCount) (va_A (wX cB cI cJ cZ a (a 35) (a 4) ww_latestFault tp_bytes tp_size rd_fault rd_faultPlace rd_kind rd_start rd_at rd_number dr_letterMarks dr_names dr_spelled dr_rows dr_alike dr_near dr_asks dr_letters dr_words dr_askCount sh_lanes sh_sizes sh_cells la_xs la_ys la_heights la_ridgeXs la_ridgeHeights la_way la_blurs la_steps la_places la_ridges la_wayBlur la_wayLength bk_times bk_froms bk_asks bk_words bk_firsts bk_lies bk_held bk_size nu_learned nu_size to_letterMarks to_names to_spelled to_rows to_alike to_near to_asks to_letters to_words to_askCount) sz) r0) 0 0 (va_A (wX cB cI cJ cZ a (a 35) (a 4) ww_latestFault tp_bytes tp_size rd_fault rd_faultPlace rd_kind rd_start rd_at rd_number dr_letterMarks dr_names dr_spelled dr_rows dr_alike dr_near dr_asks dr_letters dr_words dr_askCount sh_lanes sh_sizes sh_cells la_xs la_ys la_heights la_ridgeXs la_ridgeHeights la_way la_blurs la_steps la_places la_ridges la_wayBlur la_wayLength bk_times bk_froms bk_asks bk_words bk_firsts bk_lies bk_held bk_size nu_learned nu_size to_letterMarks to_names to_spelled to_rows to_alike to_near to_asks to_letters to_words to_askCount) sz) := by
  refine Met.ofW (cc := cX8_cut) (maxL := 6) (ret := (some .int)) (by decide) rfl ?_
  intro p e s m args below meth c s₁ B hml hv
  obtain ⟨rfl, hsz, hP, hK, hD0, hE⟩ := hv
  have hx := B.exec
  have hb := B.bytes
  have hr := B.returns
  have hts := atoms_spec (ws := wsX8_cut) B.pre
  have hown : s.vm.findClass RX8 = some m.cls := findClass_of_methodNamed B.named
  have hlocks := B.notSynchronized
  subst hsz
  have hD := hD0.self (sz := s.heap.size)
  have hA : ∀ q : Nat, s.heap.size ≤ q → va_A (wX cB cI cJ cZ a (a 35) (a 4) ww_latestFault tp_bytes tp_size rd_fault rd_faultPlace rd_kind rd_start rd_at rd_number dr_letterMarks dr_names dr_spelled dr_rows dr_alike dr_near dr_asks dr_letters dr_words dr_askCount sh_lanes sh_sizes sh_cells la_xs la_ys la_heights la_ridgeXs la_ridgeHeights la_way la_blurs la_steps la_places la_ridges la_wayBlur la_wayLength bk_times bk_froms bk_asks bk_words bk_firsts bk_lies bk_held bk_size nu_learned nu_size to_letterMarks to_names to_spelled to_rows to_alike to_near to_asks to_letters to_words to_askCount) s.heap.size q := fun q h => Or.inr h
  generalize va_A (wX cB cI cJ cZ a (a 35) (a 4) ww_latestFault tp_bytes tp_size rd_fault rd_faultPlace rd_kind rd_start rd_at rd_number dr_letterMarks dr_names dr_spelled dr_rows dr_alike dr_near dr_asks dr_letters dr_words dr_askCount sh_lanes sh_sizes sh_cells la_xs la_ys la_heights la_ridgeXs la_ridgeHeights la_way la_blurs la_steps la_places la_ridges la_wayBlur la_wayLength bk_times bk_froms bk_asks bk_words bk_firsts bk_lies bk_held bk_size nu_learned nu_size to_letterMarks to_names to_spelled to_rows to_alike to_near to_asks to_letters to_words to_askCount) s.heap.size = A at hD hA hE ⊢
  have hS : va_S A s.heap s.heap [] := va_S.rf
  have C0 : cxt cX8_cut (some .int) 6 RX8 wsX8_cut (dC, dI) (tyz cB cI cJ cZ) (E_X adK adV) A p s m ([.ref (a 0), .int x1, .int x2, .int x3] : List Value).toArray meth c := ⟨hx, hb, hr, hml, hown, hts, hlocks, hK, hA, hE⟩
  have hl := lv_entry ([.ref (a 0), .int x1, .int x2, .int x3]) (n := 6) (Nat.le_of_ble_eq_true rfl)
  rw [lg_entry_eq]
  generalize (lg_sl ([.ref (a 0), .int x1, .int x2, .int x3]) ++ List.replicate (6 - (lg_sl ([.ref (a 0), .int x1, .int x2, .int x3])).length) Slot.unset).toArray = ls at hl ⊢
  have hl : lv_has ls 6 [(0, .ref (a 0)), (1, .int x1), (2, .int x2), (3, .int x3)] := hl
  have hw0 := hts (.fieldLink RX8 60 "WhistledWords" "told" "LWhistledWords$Tongue;") (by decide +kernel)
  have hnX8 : ∀ w ∈ u_ws RX8 TX8 8, w ∈ wsX8_cut := fun _ h => List.mem_cons_of_mem _ (List.mem_append_left _ (List.mem_append_right _ h))
  unfold fX8_cut at h
  refine lv_iload_n hx hb dX8_cut_0 rfl (lv_at hl 1 rfl) ?_
  refine lv_bipush (v := -4) hx hb dX8_cut_1 (by decide) ?_
  refine lv_icmp_ne (tgt := 10) hx hb dX8_cut_3 (by decide) (fun c1 => ?_) (fun c1 => ?_)
  · have h := ie_use c1 h
    refine lv_iconst (v := 0) hx hb dX8_cut_10 (by decide) ?_
    refine lv_istore (lv' := [(4, .int (0 : Int32)), (0, .ref (a 0)), (1, .int x1), (2, .int x2), (3, .int x3)]) hx hb dX8_cut_11 hl (by decide) rfl (fun ls hl => ?_)
    refine lv_iload hx hb dX8_cut_13 (lv_at hl 0 rfl) ?_
    refine lv_if_ne (tgt := 29) hx hb dX8_cut_15 (by decide) (fun c2 => ?_) (fun c2 => ?_)
    · have h := ie_use c2 h
      exact kX8_cut_p29 dC dI cB cI cJ cZ a adK adV C0 n ww_latestFault tp_bytes tp_size rd_fault rd_faultPlace rd_kind rd_start rd_at rd_number dr_letterMarks dr_names dr_spelled dr_rows dr_alike dr_near dr_asks dr_letters dr_words dr_askCount sh_lanes sh_sizes sh_cells la_xs la_ys la_heights la_ridgeXs la_ridgeHeights la_way la_blurs la_steps la_places la_ridges la_wayBlur la_wayLength bk_times bk_froms bk_asks bk_words bk_firsts bk_lies bk_held bk_size nu_learned nu_size to_letterMarks to_names to_spelled to_rows to_alike to_near to_asks to_letters to_words to_askCount x1 x2 x3 (0 : Int32)  r0  _ _ ls h hP hD hS (lv_sub hl [1, 2, 3, 4, 0] rfl)
    · have h := it_use c2 h
      refine lv_aload_n hx hb dX8_cut_18 rfl (lv_at hl 1 rfl) ?_
      refine gX_ww_told hx hb hts hnX8 hown hK hP hw0 dX8_cut_19 ?_
      refine lv_iload_n hx hb dX8_cut_22 rfl (lv_at hl 2 rfl) ?_
      obtain ⟨v3, hc, h⟩ := bd1_use h
      refine cv_i (As := [.int x1]) (rest := []) ⟨hx, hb, hml, hown, hts⟩ (kX7_isAsk l n dC dI cB cI cJ cZ a adK adV _ ww_latestFault tp_bytes tp_size rd_fault rd_faultPlace rd_kind rd_start rd_at rd_number dr_letterMarks dr_names dr_spelled dr_rows dr_alike dr_near dr_asks dr_letters dr_words dr_askCount sh_lanes sh_sizes sh_cells la_xs la_ys la_heights la_ridgeXs la_ridgeHeights la_way la_blurs la_steps la_places la_ridges la_wayBlur la_wayLength bk_times bk_froms bk_asks bk_words bk_firsts bk_lies bk_held bk_size nu_learned nu_size to_letterMarks to_names to_spelled to_rows to_alike to_near to_asks to_letters to_words to_askCount x1 v3 hc) (cwV 1 hts gX8_cut_X7_isAsk rfl rfl rfl (by decide +kernel) ⟨Nat.le_of_ble_eq_true rfl, Nat.le_of_ble_eq_true rfl⟩) EB_X hE hK hP hD hS hA 35 (ci := 6) rfl rfl rfl rfl hl.1 rfl (Nat.le_of_ble_eq_true rfl) dX8_cut_23 ⟨Nat.zero_le _, Nat.zero_le _⟩ (fun H locs hP hD hS => ?_)
      refine lv_if_eq (tgt := 36) hx hb dX8_cut_26 (by decide) (fun c4 => ?_) (fun c4 => ?_)
      · have h := it_use c4 h
        refine lv_iconst (v := -1) hx hb dX8_cut_36 (by decide) ?_
        obtain er := rt1_use h
        exact re_i hx hb hr hlocks hK hP hD hS er dX8_cut_37
      · have h := ie_use c4 h
        exact kX8_cut_p29 dC dI cB cI cJ cZ a adK adV C0 n ww_latestFault tp_bytes tp_size rd_fault rd_faultPlace rd_kind rd_start rd_at rd_number dr_letterMarks dr_names dr_spelled dr_rows dr_alike dr_near dr_asks dr_letters dr_words dr_askCount sh_lanes sh_sizes sh_cells la_xs la_ys la_heights la_ridgeXs la_ridgeHeights la_way la_blurs la_steps la_places la_ridges la_wayBlur la_wayLength bk_times bk_froms bk_asks bk_words bk_firsts bk_lies bk_held bk_size nu_learned nu_size to_letterMarks to_names to_spelled to_rows to_alike to_near to_asks to_letters to_words to_askCount x1 x2 x3 (0 : Int32)  r0  _ _ ls h hP hD hS (lv_sub hl [1, 2, 3, 4, 0] rfl)
  · have h := it_use c1 h
    refine lv_iconst (v := 1) hx hb dX8_cut_6 (by decide) ?_
    refine lv_goto (tgt := 11) hx hb dX8_cut_7 (by decide) ?_
    refine lv_istore (lv' := [(4, .int (1 : Int32)), (0, .ref (a 0)), (1, .int x1), (2, .int x2), (3, .int x3)]) hx hb dX8_cut_11 hl (by decide) rfl (fun ls hl => ?_)
    refine lv_iload hx hb dX8_cut_13 (lv_at hl 0 rfl) ?_
    refine lv_if_ne (tgt := 29) hx hb dX8_cut_15 (by decide) (fun c5 => ?_) (fun c5 => ?_)
    · have h := ie_use c5 h
      exact kX8_cut_p29 dC dI cB cI cJ cZ a adK adV C0 n ww_latestFault tp_bytes tp_size rd_fault rd_faultPlace rd_kind rd_start rd_at rd_number dr_letterMarks dr_names dr_spelled dr_rows dr_alike dr_near dr_asks dr_letters dr_words dr_askCount sh_lanes sh_sizes sh_cells la_xs la_ys la_heights la_ridgeXs la_ridgeHeights la_way la_blurs la_steps la_places la_ridges la_wayBlur la_wayLength bk_times bk_froms bk_asks bk_words bk_firsts bk_lies bk_held bk_size nu_learned nu_size to_letterMarks to_names to_spelled to_rows to_alike to_near to_asks to_letters to_words to_askCount x1 x2 x3 (1 : Int32)  r0  _ _ ls h hP hD hS (lv_sub hl [1, 2, 3, 4, 0] rfl)
    · have h := it_use c5 h
      refine lv_aload_n hx hb dX8_cut_18 rfl (lv_at hl 1 rfl) ?_
      refine gX_ww_told hx hb hts hnX8 hown hK hP hw0 dX8_cut_19 ?_
      refine lv_iload_n hx hb dX8_cut_22 rfl (lv_at hl 2 rfl) ?_
      obtain ⟨v6, hc, h⟩ := bd1_use h
      refine cv_i (As := [.int x1]) (rest := []) ⟨hx, hb, hml, hown, hts⟩ (kX7_isAsk l n dC dI cB cI cJ cZ a adK adV _ ww_latestFault tp_bytes tp_size rd_fault rd_faultPlace rd_kind rd_start rd_at rd_number dr_letterMarks dr_names dr_spelled dr_rows dr_alike dr_near dr_asks dr_letters dr_words dr_askCount sh_lanes sh_sizes sh_cells la_xs la_ys la_heights la_ridgeXs la_ridgeHeights la_way la_blurs la_steps la_places la_ridges la_wayBlur la_wayLength bk_times bk_froms bk_asks bk_words bk_firsts bk_lies bk_held bk_size nu_learned nu_size to_letterMarks to_names to_spelled to_rows to_alike to_near to_asks to_letters to_words to_askCount x1 v6 hc) (cwV 1 hts gX8_cut_X7_isAsk rfl rfl rfl (by decide +kernel) ⟨Nat.le_of_ble_eq_true rfl, Nat.le_of_ble_eq_true rfl⟩) EB_X hE hK hP hD hS hA 35 (ci := 6) rfl rfl rfl rfl hl.1 rfl (Nat.le_of_ble_eq_true rfl) dX8_cut_23 ⟨Nat.zero_le _, Nat.zero_le _⟩ (fun H locs hP hD hS => ?_)
      refine lv_if_eq (tgt := 36) hx hb dX8_cut_26 (by decide) (fun c7 => ?_) (fun c7 => ?_)
      · have h := it_use c7 h
        refine lv_iconst (v := -1) hx hb dX8_cut_36 (by decide) ?_
        obtain er := rt1_use h
        exact re_i hx hb hr hlocks hK hP hD hS er dX8_cut_37
      · have h := ie_use c7 h
        exact kX8_cut_p29 dC dI cB cI cJ cZ a adK adV C0 n ww_latestFault tp_bytes tp_size rd_fault rd_faultPlace rd_kind rd_start rd_at rd_number dr_letterMarks dr_names dr_spelled dr_rows dr_alike dr_near dr_asks dr_letters dr_words dr_askCount sh_lanes sh_sizes sh_cells la_xs la_ys la_heights la_ridgeXs la_ridgeHeights la_way la_blurs la_steps la_places la_ridges la_wayBlur la_wayLength bk_times bk_froms bk_asks bk_words bk_firsts bk_lies bk_held bk_size nu_learned nu_size to_letterMarks to_names to_spelled to_rows to_alike to_near to_asks to_letters to_words to_askCount x1 x2 x3 (1 : Int32)  r0  _ _ ls h hP hD hS (lv_sub hl [1, 2, 3, 4, 0] rfl)

/-! THE LAW's loop -/
set_option maxHeartbeats 4000000 in
set_option maxRecDepth 100000 in
theorem law_loop {p : Program} {l : Launch} {e : Env} {s : State} {m : MethodId} {below : List Frame} {meth : Method} {c : Code} {b L : Nat} {xs : Nat → Int32} {dC : Nat → ClassId} {dI : Nat → Nat → Nat} {cB cI cJ cZ : ClassId} {adK adV : Nat → Nat} (hL : L ≤ 3584) (C0 : LC p s m meth c b L xs dC dI cB cI cJ cZ adK adV) {x0 m0 : Nat} : ∀ (d i : Nat) (wx wm : va_W) (H : Heap) (locs : List Loc) (ls : Array Slot), i ≤ L → L < i + d → INV cB cI cJ cZ x0 m0 wx wm → va_P (dC, dI) vwCl (wx ++ wm) H → va_D (fun q : Nat => s.heap.size ≤ q) (wx ++ wm) → va_S (fun q : Nat => s.heap.size ≤ q) s.heap H locs → lv_has ls 4 [(0, .ref b), (1, .ref x0), (2, .ref m0), (3, .int (nI i))] → W p l e room_1 s m #[Value.ref b] below meth c H locs 73 3097 (lw_Z below #[Value.ref b] s) (F0 m 18 ls []) := by
  obtain ⟨hx, hb, hr, hml, hown, hts, hX, hbl, hlocks, hK, hE⟩ := id C0
  have hbA : ¬ (fun q : Nat => s.heap.size ≤ q) b := Nat.not_le.mpr hbl
  intro d
  induction d with
  | zero =>
    intro i wx wm H locs ls h1 h2
    omega
  | succ d ih =>
    intro i wx wm H locs ls h1 h2 hI hP hD hS hl
    refine lv_iload_n hx hb dL_law_18 rfl (lv_at hl 3 rfl) ?_
    refine lv_aload_n hx hb dL_law_19 rfl (lv_at hl 0 rfl) ?_
    refine va_slen hx hb hX hbl hbA hS dL_law_20 ?_
    refine lv_bipush (v := 7) hx hb dL_law_21 (by decide) ?_
    refine lv_isub hx hb dL_law_23 ?_
    have sub : (Int32.ofNat L - 7).toInt = (L : Int) - 7 := pk_sub_toInt (a := L) (b := 7) (by omega) (by decide)
    refine lv_icmp_gt (tgt := 1525) hx hb dL_law_24 (by decide) (fun c1 => ?_) (fun c1 => ?_)
    · refine lv_iconst (v := 1) hx hb dL_law_1525 (by decide) ?_
      refine va_forget (fun q hq => hS.2.2 q hq) ?_
      exact lw_ret hx hb hr hlocks dL_law_1526
    · have hi : i + 7 ≤ L := by
        rw [fa_lt, sub, nI_toInt (by omega)] at c1
        omega
      have nxt : ∀ (wx1 wm1 : va_W) (H : Heap) (locs : List Loc), INV cB cI cJ cZ x0 m0 wx1 wm1 → va_P (dC, dI) vwCl (wx1 ++ wm1) H → va_D (fun q : Nat => s.heap.size ≤ q) (wx1 ++ wm1) → va_S (fun q : Nat => s.heap.size ≤ q) s.heap H locs → W p l e room_1 s m #[Value.ref b] below meth c H locs 73 3097 (lw_Z below #[Value.ref b] s) (F0 m 1519 ls []) := by
        intro wx1 wm1 H locs hI hP hD hS
        refine lv_iinc (v := nI (i + 7)) (lv' := [(3, .int (nI (i + 7))), (0, .ref b), (1, .ref x0), (2, .ref m0)]) hx hb dL_law_1519 hl (k := 3) rfl (nI_add i 7) (by decide) rfl (fun ls hl => ?_)
        refine lv_goto (tgt := 18) hx hb dL_law_1522 (by decide) ?_
        exact ih (i + 7) wx1 wm1 _ _ ls hi (by omega) hI hP hD hS (lv_sub hl [1, 2, 3, 0] rfl)
      refine lv_aload_n hx hb dL_law_27 rfl (lv_at hl 0 rfl) ?_
      refine lv_iload_n hx hb dL_law_28 rfl (lv_at hl 3 rfl) ?_
      refine va_sld hx hb hX hbl hbA hS (vp_in_nI (show i < L by omega) (by omega)) dL_law_29 ?_
      refine lv_bipush (v := 63) hx hb dL_law_30 (by decide) ?_
      refine lv_iand hx hb dL_law_32 ?_
      obtain ⟨j, hj, ej⟩ := pk_andE (xs (nI i).toNatClampNeg) (m := 63) 6 (by decide)
      rw [ej]
      obtain ⟨⟨fx, hx0⟩, fm, hm0⟩ := INV_x hI
      by_cases j0 : j = 0
      · subst j0
        refine lv_tableIn (tgt := 180) hx hb dL_law_33 (by decide) (by decide) rfl (by decide) ?_
        obtain ⟨r, wx1, wm1, MX, MM, hI1⟩ := inv_feed (dC := dC) (dI := dI) l adK adV hI (((xs (i + 1)).toInt64 <<< ((32 : Int32).toInt64 &&& 63)) ||| ((xs (i + 2)).toInt64 &&& (4294967295 : Int64)))
        exact law_feed hL C0 hi hx0 hm0 MX MM hP hD hS hl (fun H1 locs1 hP hD hS => nxt wx1 wm1 H1 locs1 hI1 hP hD hS)
      by_cases j1 : j = 1
      · subst j1
        refine lv_tableIn (tgt := 233) hx hb dL_law_33 (by decide) (by decide) rfl (by decide) ?_
        obtain ⟨r, wx1, wm1, MX, MM, hI1⟩ := inv_end (dC := dC) (dI := dI) l adK adV hI (xs (i + 1))
        exact law_end hL C0 hi hx0 hm0 MX MM hP hD hS hl (fun H1 locs1 hP hD hS => nxt wx1 wm1 H1 locs1 hI1 hP hD hS)
      by_cases j2 : j = 2
      · subst j2
        refine lv_tableIn (tgt := 256) hx hb dL_law_33 (by decide) (by decide) rfl (by decide) ?_
        obtain ⟨r, wf, wm1, MX, MM, hI1⟩ := inv_tongue (dC := dC) (dI := dI) l adK adV hI
        exact law_tongue hL C0 hi hx0 hm0 MX MM hP hD hS hl (fun a1 H1 locs1 ha hP hD hS => nxt (wf a1) wm1 H1 locs1 (hI1 a1 ha) hP hD hS)
      by_cases j3 : j = 3
      · subst j3
        refine lv_tableIn (tgt := 269) hx hb dL_law_33 (by decide) (by decide) rfl (by decide) ?_
        obtain ⟨r, wx1, wm1, MX, MM, hI1⟩ := inv_fault (dC := dC) (dI := dI) l adK adV hI 
        exact law_fault hL C0 hi hx0 hm0 MX MM hP hD hS hl (fun H1 locs1 hP hD hS => nxt wx1 wm1 H1 locs1 hI1 hP hD hS)
      by_cases j4 : j = 4
      · subst j4
        refine lv_tableIn (tgt := 282) hx hb dL_law_33 (by decide) (by decide) rfl (by decide) ?_
        obtain ⟨r, wx1, wm1, MX, MM, hI1⟩ := inv_word (dC := dC) (dI := dI) l adK adV hI (xs (i + 1)) (xs (i + 2))
        exact law_word hL C0 hi hx0 hm0 MX MM hP hD hS hl (fun H1 locs1 hP hD hS => nxt wx1 wm1 H1 locs1 hI1 hP hD hS)
      by_cases j5 : j = 5
      · subst j5
        refine lv_tableIn (tgt := 315) hx hb dL_law_33 (by decide) (by decide) rfl (by decide) ?_
        obtain ⟨r, wx1, wm1, MX, MM, hI1⟩ := inv_ask (dC := dC) (dI := dI) l adK adV hI (xs (i + 1)) (xs (i + 2))
        exact law_ask hL C0 hi hx0 hm0 MX MM hP hD hS hl (fun H1 locs1 hP hD hS => nxt wx1 wm1 H1 locs1 hI1 hP hD hS)
      by_cases j6 : j = 6
      · subst j6
        refine lv_tableIn (tgt := 348) hx hb dL_law_33 (by decide) (by decide) rfl (by decide) ?_
        obtain ⟨r, wx1, wm1, MX, MM, hI1⟩ := inv_blurred (dC := dC) (dI := dI) l adK adV hI (xs (i + 1)) (xs (i + 2)) (xs (i + 3))
        exact law_blurred hL C0 hi hx0 hm0 MX MM hP hD hS hl (fun H1 locs1 hP hD hS => nxt wx1 wm1 H1 locs1 hI1 hP hD hS)
      by_cases j7 : j = 7
      · subst j7
        refine lv_tableIn (tgt := 391) hx hb dL_law_33 (by decide) (by decide) rfl (by decide) ?_
        obtain ⟨r, wx1, wm1, MX, MM, hI1⟩ := inv_apart (dC := dC) (dI := dI) l adK adV hI (xs (i + 1)) (xs (i + 2)) (xs (i + 3))
        exact law_apart hL C0 hi hx0 hm0 MX MM hP hD hS hl (fun H1 locs1 hP hD hS => nxt wx1 wm1 H1 locs1 hI1 hP hD hS)
      by_cases j8 : j = 8
      · subst j8
        refine lv_tableIn (tgt := 434) hx hb dL_law_33 (by decide) (by decide) rfl (by decide) ?_
        obtain ⟨r, wx1, wm1, MX, MM, hI1⟩ := inv_until (dC := dC) (dI := dI) l adK adV hI (xs (i + 1)) (xs (i + 2))
        exact law_until hL C0 hi hx0 hm0 MX MM hP hD hS hl (fun H1 locs1 hP hD hS => nxt wx1 wm1 H1 locs1 hI1 hP hD hS)
      by_cases j9 : j = 9
      · subst j9
        refine lv_tableIn (tgt := 467) hx hb dL_law_33 (by decide) (by decide) rfl (by decide) ?_
        obtain ⟨r, wx1, wm1, MX, MM, hI1⟩ := inv_cut (dC := dC) (dI := dI) l adK adV hI (xs (i + 1)) (xs (i + 2)) (xs (i + 3))
        exact law_cut hL C0 hi hx0 hm0 MX MM hP hD hS hl (fun H1 locs1 hP hD hS => nxt wx1 wm1 H1 locs1 hI1 hP hD hS)
      by_cases j10 : j = 10
      · subst j10
        refine lv_tableIn (tgt := 510) hx hb dL_law_33 (by decide) (by decide) rfl (by decide) ?_
        obtain ⟨r, wx1, wm1, MX, MM, hI1⟩ := inv_means (dC := dC) (dI := dI) l adK adV hI (xs (i + 1)) (xs (i + 2)) (xs (i + 3)) (xs (i + 4)) (xs (i + 5)) (xs (i + 6))
        exact law_means hL C0 hi hx0 hm0 MX MM hP hD hS hl (fun H1 locs1 hP hD hS => nxt wx1 wm1 H1 locs1 hI1 hP hD hS)
      by_cases j11 : j = 11
      · subst j11
        refine lv_tableIn (tgt := 585) hx hb dL_law_33 (by decide) (by decide) rfl (by decide) ?_
        obtain ⟨r, wx1, wm1, MX, MM, hI1⟩ := inv_both (dC := dC) (dI := dI) l adK adV hI (xs (i + 1)) (xs (i + 2)) (xs (i + 3)) (xs (i + 4))
        exact law_both hL C0 hi hx0 hm0 MX MM hP hD hS hl (fun H1 locs1 hP hD hS => nxt wx1 wm1 H1 locs1 hI1 hP hD hS)
      by_cases j12 : j = 12
      · subst j12
        refine lv_tableIn (tgt := 638) hx hb dL_law_33 (by decide) (by decide) rfl (by decide) ?_
        obtain ⟨r, wx1, wm1, MX, MM, hI1⟩ := inv_sure (dC := dC) (dI := dI) l adK adV hI (xs (i + 1)) (xs (i + 2))
        exact law_sure hL C0 hi hx0 hm0 MX MM hP hD hS hl (fun H1 locs1 hP hD hS => nxt wx1 wm1 H1 locs1 hI1 hP hD hS)
      by_cases j13 : j = 13
      · subst j13
        refine lv_tableIn (tgt := 671) hx hb dL_law_33 (by decide) (by decide) rfl (by decide) ?_
        obtain ⟨r, wx1, wm1, MX, MM, hI1⟩ := inv_place (dC := dC) (dI := dI) l adK adV hI (xs (i + 1)) (xs (i + 2)) (xs (i + 3))
        exact law_place hL C0 hi hx0 hm0 MX MM hP hD hS hl (fun H1 locs1 hP hD hS => nxt wx1 wm1 H1 locs1 hI1 hP hD hS)
      by_cases j14 : j = 14
      · subst j14
        refine lv_tableIn (tgt := 714) hx hb dL_law_33 (by decide) (by decide) rfl (by decide) ?_
        obtain ⟨r, wx1, wm1, MX, MM, hI1⟩ := inv_ridge (dC := dC) (dI := dI) l adK adV hI (xs (i + 1)) (xs (i + 2))
        exact law_ridge hL C0 hi hx0 hm0 MX MM hP hD hS hl (fun H1 locs1 hP hD hS => nxt wx1 wm1 H1 locs1 hI1 hP hD hS)
      by_cases j15 : j = 15
      · subst j15
        refine lv_tableIn (tgt := 747) hx hb dL_law_33 (by decide) (by decide) rfl (by decide) ?_
        obtain ⟨r, wx1, wm1, MX, MM, hI1⟩ := inv_sheet (dC := dC) (dI := dI) l adK adV hI (xs (i + 1)) (xs (i + 2)) (xs (i + 3))
        exact law_sheet hL C0 hi hx0 hm0 MX MM hP hD hS hl (fun H1 locs1 hP hD hS => nxt wx1 wm1 H1 locs1 hI1 hP hD hS)
      by_cases j16 : j = 16
      · subst j16
        refine lv_tableIn (tgt := 790) hx hb dL_law_33 (by decide) (by decide) rfl (by decide) ?_
        obtain ⟨r, wx1, wm1, MX, MM, hI1⟩ := inv_lay (dC := dC) (dI := dI) l adK adV hI (xs (i + 1)) (xs (i + 2)) (xs (i + 3))
        exact law_lay hL C0 hi hx0 hm0 MX MM hP hD hS hl (fun H1 locs1 hP hD hS => nxt wx1 wm1 H1 locs1 hI1 hP hD hS)
      by_cases j17 : j = 17
      · subst j17
        refine lv_tableIn (tgt := 833) hx hb dL_law_33 (by decide) (by decide) rfl (by decide) ?_
        obtain ⟨r, wx1, wm1, MX, MM, hI1⟩ := inv_wind (dC := dC) (dI := dI) l adK adV hI (xs (i + 1)) (xs (i + 2))
        exact law_wind hL C0 hi hx0 hm0 MX MM hP hD hS hl (fun H1 locs1 hP hD hS => nxt wx1 wm1 H1 locs1 hI1 hP hD hS)
      by_cases j18 : j = 18
      · subst j18
        refine lv_tableIn (tgt := 866) hx hb dL_law_33 (by decide) (by decide) rfl (by decide) ?_
        obtain ⟨r, wx1, wm1, MX, MM, hI1⟩ := inv_blur (dC := dC) (dI := dI) l adK adV hI (xs (i + 1)) (xs (i + 2)) (xs (i + 3))
        exact law_blur hL C0 hi hx0 hm0 MX MM hP hD hS hl (fun H1 locs1 hP hD hS => nxt wx1 wm1 H1 locs1 hI1 hP hD hS)
      by_cases j19 : j = 19
      · subst j19
        refine lv_tableIn (tgt := 909) hx hb dL_law_33 (by decide) (by decide) rfl (by decide) ?_
        obtain ⟨r, wx1, wm1, MX, MM, hI1⟩ := inv_hears (dC := dC) (dI := dI) l adK adV hI (xs (i + 1)) (xs (i + 2)) (xs (i + 3))
        exact law_hears hL C0 hi hx0 hm0 MX MM hP hD hS hl (fun H1 locs1 hP hD hS => nxt wx1 wm1 H1 locs1 hI1 hP hD hS)
      by_cases j20 : j = 20
      · subst j20
        refine lv_tableIn (tgt := 952) hx hb dL_law_33 (by decide) (by decide) rfl (by decide) ?_
        obtain ⟨r, wx1, wm1, MX, MM, hI1⟩ := inv_way (dC := dC) (dI := dI) l adK adV hI (xs (i + 1)) (xs (i + 2)) (xs (i + 3)) (xs (i + 4))
        exact law_way hL C0 hi hx0 hm0 MX MM hP hD hS hl (fun H1 locs1 hP hD hS => nxt wx1 wm1 H1 locs1 hI1 hP hD hS)
      by_cases j21 : j = 21
      · subst j21
        refine lv_tableIn (tgt := 1005) hx hb dL_law_33 (by decide) (by decide) rfl (by decide) ?_
        obtain ⟨r, wx1, wm1, MX, MM, hI1⟩ := inv_call (dC := dC) (dI := dI) l adK adV hI (xs (i + 1)) (xs (i + 2)) (xs (i + 3)) (xs (i + 4)) (xs (i + 5)) (xs (i + 6))
        exact law_call hL C0 hi hx0 hm0 MX MM hP hD hS hl (fun H1 locs1 hP hD hS => nxt wx1 wm1 H1 locs1 hI1 hP hD hS)
      by_cases j22 : j = 22
      · subst j22
        refine lv_tableIn (tgt := 1080) hx hb dL_law_33 (by decide) (by decide) rfl (by decide) ?_
        obtain ⟨r, wx1, wm1, MX, MM, hI1⟩ := inv_callOf (dC := dC) (dI := dI) l adK adV hI (xs (i + 1)) (xs (i + 2))
        exact law_callOf hL C0 hi hx0 hm0 MX MM hP hD hS hl (fun H1 locs1 hP hD hS => nxt wx1 wm1 H1 locs1 hI1 hP hD hS)
      by_cases j23 : j = 23
      · subst j23
        refine lv_tableIn (tgt := 1113) hx hb dL_law_33 (by decide) (by decide) rfl (by decide) ?_
        obtain ⟨r, wx1, wm1, MX, MM, hI1⟩ := inv_lie (dC := dC) (dI := dI) l adK adV hI (xs (i + 1)) (if xs (i + 2) = 0 then 0 else 1) (by by_cases z : xs (i + 2) = 0; exact Or.inl (if_pos z); exact Or.inr (if_neg z))
        exact law_lie hL C0 hi hx0 hm0 rfl MX MM hP hD hS hl (fun H1 locs1 hP hD hS => nxt wx1 wm1 H1 locs1 hI1 hP hD hS)
      by_cases j24 : j = 24
      · subst j24
        refine lv_tableIn (tgt := 1162) hx hb dL_law_33 (by decide) (by decide) rfl (by decide) ?_
        obtain ⟨r, wx1, wm1, MX, MM, hI1⟩ := inv_has (dC := dC) (dI := dI) l adK adV hI (xs (i + 1)) (xs (i + 2)) (xs (i + 3)) (xs (i + 4))
        exact law_has hL C0 hi hx0 hm0 MX MM hP hD hS hl (fun H1 locs1 hP hD hS => nxt wx1 wm1 H1 locs1 hI1 hP hD hS)
      by_cases j25 : j = 25
      · subst j25
        refine lv_tableIn (tgt := 1215) hx hb dL_law_33 (by decide) (by decide) rfl (by decide) ?_
        obtain ⟨r, wx1, wm1, MX, MM, hI1⟩ := inv_knows (dC := dC) (dI := dI) l adK adV hI (xs (i + 1)) (xs (i + 2)) (xs (i + 3)) (xs (i + 4))
        exact law_knows hL C0 hi hx0 hm0 MX MM hP hD hS hl (fun H1 locs1 hP hD hS => nxt wx1 wm1 H1 locs1 hI1 hP hD hS)
      by_cases j26 : j = 26
      · subst j26
        refine lv_tableIn (tgt := 1268) hx hb dL_law_33 (by decide) (by decide) rfl (by decide) ?_
        obtain ⟨r, wx1, wm1, MX, MM, hI1⟩ := inv_since (dC := dC) (dI := dI) l adK adV hI (xs (i + 1)) (xs (i + 2)) (xs (i + 3))
        exact law_since hL C0 hi hx0 hm0 MX MM hP hD hS hl (fun H1 locs1 hP hD hS => nxt wx1 wm1 H1 locs1 hI1 hP hD hS)
      by_cases j27 : j = 27
      · subst j27
        refine lv_tableIn (tgt := 1311) hx hb dL_law_33 (by decide) (by decide) rfl (by decide) ?_
        obtain ⟨r, wx1, wm1, MX, MM, hI1⟩ := inv_spread (dC := dC) (dI := dI) l adK adV hI (xs (i + 1)) (xs (i + 2)) (xs (i + 3)) (xs (i + 4)) (xs (i + 5))
        exact law_spread hL C0 hi hx0 hm0 MX MM hP hD hS hl (fun H1 locs1 hP hD hS => nxt wx1 wm1 H1 locs1 hI1 hP hD hS)
      by_cases j28 : j = 28
      · subst j28
        refine lv_tableIn (tgt := 1374) hx hb dL_law_33 (by decide) (by decide) rfl (by decide) ?_
        obtain ⟨r, wx1, wm1, MX, MM, hI1⟩ := inv_child (dC := dC) (dI := dI) l adK adV hI 
        exact law_child hL C0 hi hx0 hm0 MX MM hP hD hS hl (fun H1 locs1 hP hD hS => nxt wx1 wm1 H1 locs1 hI1 hP hD hS)
      by_cases j29 : j = 29
      · subst j29
        refine lv_tableIn (tgt := 1387) hx hb dL_law_33 (by decide) (by decide) rfl (by decide) ?_
        obtain ⟨r, wx1, wm1, MX, MM, hI1⟩ := inv_learn (dC := dC) (dI := dI) l adK adV hI (xs (i + 1)) (xs (i + 2)) (xs (i + 3))
        exact law_learn hL C0 hi hx0 hm0 MX MM hP hD hS hl (fun H1 locs1 hP hD hS => nxt wx1 wm1 H1 locs1 hI1 hP hD hS)
      by_cases j30 : j = 30
      · subst j30
        refine lv_tableIn (tgt := 1430) hx hb dL_law_33 (by decide) (by decide) rfl (by decide) ?_
        obtain ⟨r, wx1, wm1, MX, MM, hI1⟩ := inv_childOf (dC := dC) (dI := dI) l adK adV hI (xs (i + 1)) (xs (i + 2))
        exact law_childOf hL C0 hi hx0 hm0 MX MM hP hD hS hl (fun H1 locs1 hP hD hS => nxt wx1 wm1 H1 locs1 hI1 hP hD hS)
      by_cases j31 : j = 31
      · subst j31
        refine lv_tableIn (tgt := 1463) hx hb dL_law_33 (by decide) (by decide) rfl (by decide) ?_
        obtain ⟨r, wx1, wm1, MX, MM, hI1⟩ := inv_lessons (dC := dC) (dI := dI) l adK adV hI (xs (i + 1)) (xs (i + 2))
        exact law_lessons hL C0 hi hx0 hm0 MX MM hP hD hS hl (fun H1 locs1 hP hD hS => nxt wx1 wm1 H1 locs1 hI1 hP hD hS)
      by_cases j32 : j = 32
      · subst j32
        refine lv_tableIn (tgt := 1496) hx hb dL_law_33 (by decide) (by decide) rfl (by decide) ?_
        obtain ⟨r, wx1, wm1, MX, MM, hI1⟩ := inv_count (dC := dC) (dI := dI) l adK adV hI (xs (i + 1))
        exact law_count hL C0 hi hx0 hm0 MX MM hP hD hS hl (fun H1 locs1 hP hD hS => nxt wx1 wm1 H1 locs1 hI1 hP hD hS)
      refine lv_tableOut (tgt := 1519) hx hb dL_law_33 (Or.inr (by rw [nI_toInt (by omega)]; omega)) (by decide) ?_
      exact nxt wx wm H locs hI hP hD hS

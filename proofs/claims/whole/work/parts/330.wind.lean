/-! lay, wind -/
theorem X_fault_none {n : Nat} {sl ss : Nat → Int32} {k : Nat} (hk : k < 4) (h : ss k = -1) (x2 x3 x4 : Int32) : fX4_faultOfRow n sl ss (nI k) x2 x3 x4 = some 1 := by
  unfold fX4_faultOfRow
  rw [ar_nI hk (by decide), if_pos h]
theorem X_fault_cast {n : Nat} {sl ss : Nat → Int32} {k z l : Nat} (hk : k < 4) (hz : z ≤ 60) (h : ss k = nI z) (hl : sl k = nI l) {x2 : Int32} (h2 : ¬ nI l = x2) (x3 x4 : Int32) : fX4_faultOfRow n sl ss (nI k) x2 x3 x4 = some 3 := by
  unfold fX4_faultOfRow
  rw [ar_nI hk (by decide), h, if_neg (ne_m1 (by omega)), ar_nI hk (by decide), hl, if_neg h2]
theorem X_fault_in {n : Nat} {sl ss : Nat → Int32} {k z l i c : Nat} (hk : k < 4) (hz : z ≤ 60) (h : ss k = nI z) (hl : sl k = nI l) (hc : 0 < c) (hi : i + c ≤ z) : fX4_faultOfRow n sl ss (nI k) (nI l) (nI i) (nI c) = some 0 := by
  unfold fX4_faultOfRow
  rw [ar_nI hk (by decide), h, if_neg (ne_m1 (by omega)), ar_nI hk (by decide), hl, if_pos rfl, if_neg (nI_nle hc (by omega)), if_neg (nI_pos (by omega)), ar_nI hk (by decide), h, pk_sub (by omega), if_pos (nI_le (by omega) (by omega)), if_pos rfl]
theorem X_fault_out {n : Nat} {sl ss : Nat → Int32} {k z l c : Nat} {x : Int32} (hk : k < 4) (hz : z ≤ 60) (h : ss k = nI z) (hl : sl k = nI l) (hc : 0 < c) (hc8 : c ≤ 8) (hi : ¬ (0 ≤ x.toInt ∧ x.toInt + c ≤ z)) : fX4_faultOfRow n sl ss (nI k) (nI l) x (nI c) = some 2 := by
  unfold fX4_faultOfRow
  rw [ar_nI hk (by decide), h, if_neg (ne_m1 (by omega)), ar_nI hk (by decide), hl, if_pos rfl, if_neg (nI_nle hc (by omega))]
  by_cases q : x < 0
  · rw [if_pos q, if_neg i10]
  · rw [if_neg q, ar_nI hk (by decide), h, if_neg, if_neg i10]
    rw [fa_le, pk_sub_toInt (by omega) (by omega)]
    rw [lt0_iff] at q
    omega
theorem X_fault_0 {n : Nat} {sl ss : Nat → Int32} {k z l : Nat} (x : Int32) (hk : k < 4) (hz : z ≤ 60) (h : ss k = nI z) (hl : sl k = nI l) : fX4_faultOfRow n sl ss (nI k) (nI l) x 0 = some 0 := by
  unfold fX4_faultOfRow
  rw [ar_nI hk (by decide), h, if_neg (ne_m1 (by omega)), ar_nI hk (by decide), hl, if_pos rfl, if_pos (by decide), if_pos rfl]
theorem i1nI : (1 : Int32) = nI 1 := rfl
theorem i0nI : (0 : Int32) = nI 0 := rfl
theorem P_lay {n : Nat} {sl ss sc ml ms mc : Nat → Int32} (h : RS sl ss sc ml ms mc) (x1 x2 x3 : Int32) :
    ∃ (r : Int32) (f g : Nat → Int32), fX8_lay n sl ss sc x1 x2 x3 = some (r, f) ∧ fX9_lay n ml ms mc x1 x2 x3 = some (r, g) ∧ RS sl ss f ml ms g := by
  unfold fX8_lay fX9_lay fX9_isSheet
  have h20 : fX9_in n (0 : Int32).toInt64 (0 : Int64) (2 : Int64) = some 1 := M_2_y (j := 0) (by decide)
  rcases ixc x1 4 with ⟨k, hk, rfl⟩ | h1
  · rw [fX4_isSheet_y hk, M_3_y hk, h20, bd1_some, bd1_some, if_neg i10, if_neg i10, bd1_some, if_neg i10, bd1_some, if_neg i10, ar_nI hk (by decide), ar_nI hk (by decide)]
    rcases h k hk with ⟨e1, e2⟩ | ⟨l, z, hl, hz, e3, e4, e5, e6, e7⟩
    · refine ⟨-11, sc, mc, ?_, ?_, h⟩
      · rw [X_fault_none hk e2, bd1_some, if_neg i10]
        rfl
      · rw [if_pos e1]
    · rw [e3, if_neg (ne_m4 (by omega)), ar_nI hk (by decide), e5, e4]
      rcases ixc x2 z with ⟨i, hi, rfl⟩ | h2
      · have hw : ∀ v : Int32, RS sl ss (upd sc (60 * k + i) v) ml ms (upd mc (60 * k + i) v) := by
          intro v a ha
          by_cases e : a = k
          · subst e
            refine Or.inr ⟨l, z, hl, hz, e3, e4, e5, e6, fun t ht => ?_⟩
            by_cases e : t = i
            · subst e
              rw [pk_us, pk_us]
            · rw [pk_un (by omega), pk_un (by omega)]
              exact e7 t ht
          · rcases h a ha with h1 | ⟨l', z', a1, a2, a3, a4, a5, a6, a7⟩
            · exact Or.inl h1
            · refine Or.inr ⟨l', z', a1, a2, a3, a4, a5, a6, fun t ht => ?_⟩
              rw [pk_un (by omega), pk_un (by omega)]
              exact a7 t ht
        rw [i1nI, X_fault_in hk hz e6 e4 (by decide) (by omega), bd1_some, if_pos rfl]
        have hin : fX9_in n (nI i).toInt64 0 (nI z - nI 1).toInt64 = some 1 := M_is_y hi (by omega)
        rw [hin, bd1_some, if_neg (by decide), ar_nI hk (by decide), e3]
        have hpos : nI 60 * nI k + nI i = nI (60 * k + i) := by rw [pk_mul, nI_add]
        have hpos2 : nI k * nI 60 + nI i = nI (60 * k + i) := by rw [pk_mul, nI_add, Nat.mul_comm]
        unfold fX4_put
        rw [show (60 : Int32) = nI 60 from rfl, ar_nI hk (by decide), e4, hpos, hpos2]
        rcases (show l = 0 ∨ l = 1 ∨ l = 2 by omega) with rfl | rfl | rfl
        · refine ⟨nI 1, _, _, ?_, ?_, hw x3.toInt8.toInt32⟩
          · rw [if_pos (by decide), nm, aw_nI (by omega) (by decide), bd1_some]
          · rw [if_pos (by decide), aw_nI (by omega) (by decide)]
        · refine ⟨nI 1, _, _, ?_, ?_, hw x3.toInt16.toInt32⟩
          · rw [if_neg (by decide), ar_nI hk (by decide), e4, if_pos (by decide), nm, aw_nI (by omega) (by decide), bd1_some]
          · rw [if_neg (by decide), ar_nI hk (by decide), e3, if_pos (by decide), aw_nI (by omega) (by decide)]
        · refine ⟨nI 1, _, _, ?_, ?_, hw x3⟩
          · rw [if_neg (by decide), ar_nI hk (by decide), e4, if_neg (by decide), aw_nI (by omega) (by decide), bd1_some]
          · rw [if_neg (by decide), ar_nI hk (by decide), e3, if_neg (by decide), aw_nI (by omega) (by decide)]
      · refine ⟨-12, sc, mc, ?_, ?_, h⟩
        · rw [i1nI, X_fault_out hk hz e6 e4 (by decide) (by decide) (by unfold inR at h2; omega), bd1_some, if_neg (by decide)]
          rfl
        · have hin : fX9_in n x2.toInt64 0 (nI z - 1).toInt64 = some 0 := M_is_n (by omega) h2
          rw [hin, bd1_some, if_pos rfl]
  · refine ⟨-1, sc, mc, ?_, ?_, h⟩
    · rw [fX4_isSheet_n h1, bd1_some, if_pos rfl]
    · rw [M_3_n h1, bd1_some, if_pos rfl, bd1_some, if_pos rfl]
/-- the wind of an hour, on both sides -/
theorem P_windv {n : Nat} {sl ss sc ml ms mc : Nat → Int32} (h : RS sl ss sc ml ms mc) {t : Nat} (ht : t < 24) :
    ∃ w f : Int32, fX4_windAt n sl ss sc (nI t) = some w ∧ fX9_windOf n ml ms mc (nI t) = some w ∧ fX4_faultOfWind n sl ss (nI t) = some f ∧ fX9_windFault n ml ms (nI t) = some f ∧ (w = 9 ∨ (-2 ≤ w.toInt ∧ w.toInt ≤ 2)) := by
  unfold fX4_windAt fX9_windOf fX4_faultOfWind fX9_windFault
  rw [ar_nI (by omega : t < 240) (by decide)]
  have a0 : ∀ (β : Type) (f : Nat → Int32) (k : Int32 → Option β), ar 0 4 f k = k (f 0) := fun β f k => ar_nI (j := 0) (by decide) (by decide)
  rw [a0]
  rcases h 0 (by decide) with ⟨e1, e2⟩ | ⟨l, z, hl, hz, e3, e4, e5, e6, e7⟩
  · have F : fX4_faultOfRow n sl ss 0 0 (nI t) 1 = some 1 := X_fault_none (k := 0) (by decide) e2 _ _ _
    rw [F, bd1_some, if_neg i10, if_pos e1, bd1_some, if_neg (by decide), bd1_some]
    exact ⟨9, 1, rfl, rfl, rfl, rfl, Or.inl rfl⟩
  · rw [e3, if_neg (ne_m4 (by omega)), a0, e3]
    by_cases hl0 : l = 0
    · subst hl0
      rw [if_pos (by decide : nI 0 = 0), a0, e5]
      by_cases q : t < z
      · obtain ⟨v, hv⟩ : ∃ v, v = sc (60 * 0 + t) := ⟨_, rfl⟩
        have hv2 : mc t = v := by
          have := e7 t q
          rw [Nat.mul_zero, Nat.zero_add] at this hv
          rw [this, hv]
        have F : fX4_faultOfRow n sl ss 0 0 (nI t) 1 = some 0 := X_fault_in (k := 0) (l := 0) (i := t) (c := 1) (by decide) hz e6 e4 (by decide) (by omega)
        have hc : fX4_cellAt n sc 0 (nI t) = some v := by
          unfold fX4_cellAt
          rw [i0nI, show (60 : Int32) = nI 60 from rfl, pk_mul, nI_add, ar_nI (by omega) (by decide), hv]
        rw [if_pos (nI_lt q (by omega)), bd1_some, if_pos (by decide), hv2, F, bd1_some, if_pos rfl, hc, bd1_some, nm, nm, bd1_some]
        by_cases q2 : v ≤ 2
        · rw [if_pos q2]
          have e : (if v < 2 then v else 2) = v := by
            by_cases z : v < 2
            · rw [if_pos z]
            · rw [if_neg z]
              rw [fa_le] at q2; rw [fa_lt] at z; rw [fa_eq]; omega
          rw [e]
          by_cases q3 : -2 ≤ v
          · rw [if_pos q3]
            have e : (if -2 < v then v else -2) = v := by
              by_cases z : -2 < v
              · rw [if_pos z]
              · rw [if_neg z]
                rw [fa_le] at q3; rw [fa_lt] at z; rw [fa_eq]; omega
            rw [e]
            refine ⟨v, _, rfl, rfl, rfl, rfl, Or.inr ?_⟩
            rw [fa_le] at q2 q3
            exact ⟨q3, q2⟩
          · rw [if_neg q3, if_neg (fun z => q3 (by rw [fa_lt] at z; rw [fa_le]; omega))]
            exact ⟨-2, _, rfl, rfl, rfl, rfl, Or.inr (by decide)⟩
        · have e : (if v < 2 then v else 2) = 2 := if_neg (fun z => q2 (by rw [fa_lt] at z; rw [fa_le]; omega))
          rw [if_neg q2, e, if_pos (by decide)]
          exact ⟨2, _, rfl, rfl, rfl, rfl, Or.inr (by decide)⟩
      · have F : fX4_faultOfRow n sl ss 0 0 (nI t) 1 = some 2 := X_fault_out (k := 0) (l := 0) (c := 1) (by decide) hz e6 e4 (by decide) (by decide) (by rw [nI_toInt (by omega)]; omega)
        rw [if_neg (nI_nlt (by omega) (by omega)), bd1_some, if_neg (by decide), F, bd1_some, if_neg (by decide), bd1_some]
        exact ⟨_, _, rfl, rfl, rfl, rfl, Or.inl rfl⟩
    · have ne : ¬ nI l = 0 := nI_ne0 (by omega) (by omega)
      have F : fX4_faultOfRow n sl ss 0 0 (nI t) 1 = some 3 := X_fault_cast (k := 0) (by decide) hz e6 e4 ne _ _
      rw [if_neg ne, bd1_some, if_neg (by decide), F, bd1_some, if_neg (by decide), bd1_some]
      exact ⟨_, _, rfl, rfl, rfl, rfl, Or.inl rfl⟩
theorem P_wind {n : Nat} {sl ss sc ml ms mc : Nat → Int32} (h : RS sl ss sc ml ms mc) (x1 x2 : Int32) :
    ∃ r : Int32, fX8_wind n sl ss sc x1 x2 = some r ∧ fX9_wind n ml ms mc x1 x2 = some r := by
  unfold fX8_wind fX9_wind
  rcases ixc x1 24 with ⟨t, ht, rfl⟩ | h1
  · rw [fX8_isHour_y ht, M_23_y ht, bd1_some, bd1_some, if_neg i10, if_neg i10]
    obtain ⟨w, f, e1, e2, e3, e4, -⟩ := P_windv (n := n) h ht
    rw [e1, e2, e3, e4]
    simp only [bd1_some]
    rcases ixc x2 2 with ⟨j, hj, rfl⟩ | h2
    · rw [M_1_y hj, bd1_some, if_neg i10, if_neg (nI_pos (by omega)), if_pos (by rw [i1nI]; exact nI_le (by omega) (by decide))]
      rcases (show j = 0 ∨ j = 1 by omega) with rfl | rfl
      · exact ⟨w, rfl, rfl⟩
      · exact ⟨f, rfl, rfl⟩
    · rw [M_1_n h2, bd1_some, if_pos rfl]
      refine ⟨-10, ?_, rfl⟩
      unfold inR at h2
      by_cases q : x2 < 0
      · rw [if_pos q]
      · rw [if_neg q, if_neg]
        rw [i1nI, lenI_iff (by decide)]
        rw [lt0_iff] at q
        omega
  · rw [fX8_isHour_n h1, M_23_n h1, bd1_some, bd1_some, if_pos rfl, if_pos rfl]
    exact ⟨-10, rfl, rfl⟩

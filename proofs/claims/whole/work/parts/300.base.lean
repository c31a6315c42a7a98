/-! the pure layer: numbers, places of rows, guards -/
theorem ar_nI {α β : Type} {n j : Nat} {f : Nat → α} {k : α → Option β} (h : j < n) (hn : n < 2147483648) : ar (nI j) n f k = k (f j) := by
  unfold ar
  rw [if_neg (nI_in h hn), nI_clamp (by omega)]
theorem aw_nI {β : Type} {n j : Nat} {f : Nat → Int32} {x : Int32} {k : (Nat → Int32) → Option β} (h : j < n) (hn : n < 2147483648) : aw (nI j) n f x k = k (upd f j x) := by
  unfold aw
  rw [if_neg (nI_in h hn), nI_clamp (by omega)]
theorem awL_nI {β : Type} {n j : Nat} {f : Nat → Int64} {x : Int64} {k : (Nat → Int64) → Option β} (h : j < n) (hn : n < 2147483648) : awL (nI j) n f x k = k (vp_updL f j x) := by
  unfold awL
  rw [if_neg (nI_in h hn), nI_clamp (by omega)]
theorem rb_0 {β : Type} {k : Option β} : rb 0 k = k := if_pos (Or.inl rfl)
theorem rb_1 {β : Type} {k : Option β} : rb 1 k = k := if_pos (Or.inr rfl)
/-- 0 or 1 by a proposition -/
def g01 (p : Prop) [Decidable p] : Int32 := if p then 1 else 0
theorem g01_t {p : Prop} [Decidable p] (h : p) : g01 p = 1 := if_pos h
theorem g01_f {p : Prop} [Decidable p] (h : ¬ p) : g01 p = 0 := if_neg h
theorem rb_g {p : Prop} [Decidable p] {β : Type} {k : Option β} : rb (g01 p) k = k := by
  by_cases h : p
  · rw [g01_t h, rb_1]
  · rw [g01_f h, rb_0]
theorem g01_eq0 {p : Prop} [Decidable p] : (g01 p = 0) ↔ ¬ p := by
  by_cases h : p
  · rw [g01_t h]; simp [h]
  · rw [g01_f h]; simp [h]
theorem g01_if {p : Prop} [Decidable p] {α : Type} {a b : α} : (if g01 p = 0 then a else b) = if p then b else a := by
  by_cases h : p
  · rw [g01_t h, if_neg (by decide), if_pos h]
  · rw [g01_f h, if_pos rfl, if_neg h]
/-- x is a number below N -/
def inR (x : Int32) (N : Nat) : Prop := 0 ≤ x.toInt ∧ x.toInt < N
theorem inR_dec (x : Int32) (N : Nat) : (0 ≤ x.toInt ∧ x.toInt < N) = inR x N := rfl
noncomputable def dR (x : Int32) (N : Nat) : Decidable (inR x N) := Classical.propDecidable _
theorem inR_nI {x : Int32} {N : Nat} (h : inR x N) : ∃ j, j < N ∧ x = nI j := by
  obtain ⟨h1, h2⟩ := h
  have hx := fb_rng x
  refine ⟨x.toInt.toNat, by omega, ?_⟩
  apply Int32.toInt_inj.mp
  rw [nI_toInt (by omega)]
  omega
theorem nI_inR {j N : Nat} (h : j < N) (hN : N < 2147483648) : inR (nI j) N := by
  unfold inR
  rw [nI_toInt (by omega)]
  omega
theorem ixc (x : Int32) (N : Nat) : (∃ j, j < N ∧ x = nI j) ∨ ¬ inR x N := by
  by_cases h : inR x N
  · exact Or.inl (inR_nI h)
  · exact Or.inr h
theorem lt0_iff (x : Int32) : x < 0 ↔ x.toInt < 0 := by
  rw [fa_lt, Int32.toInt_zero]
theorem le0_iff (x : Int32) : 0 ≤ x ↔ 0 ≤ x.toInt := by
  rw [fa_le, Int32.toInt_zero]
theorem nIle_iff {N : Nat} (hN : N < 2147483648) (x : Int32) : nI N ≤ x ↔ (N : Int) ≤ x.toInt := by
  rw [fa_le, nI_toInt (by omega)]
theorem lenI_iff {N : Nat} (hN : N < 2147483648) (x : Int32) : x ≤ nI N ↔ x.toInt ≤ (N : Int) := by
  rw [fa_le, nI_toInt (by omega)]
theorem ltnI_iff {N : Nat} (hN : N < 2147483648) (x : Int32) : x < nI N ↔ x.toInt < (N : Int) := by
  rw [fa_lt, nI_toInt (by omega)]
theorem nIlt_iff {N : Nat} (hN : N < 2147483648) (x : Int32) : nI N < x ↔ (N : Int) < x.toInt := by
  rw [fa_lt, nI_toInt (by omega)]
/-- a guard of the class: below 0, or N and more -/
theorem gd_y {j N : Nat} (h : j < N) (hN : N < 2147483648) : (if nI j < 0 then some (0 : Int32) else (if nI N ≤ nI j then some (0 : Int32) else some (1 : Int32))) = some 1 := by
  rw [if_neg (nI_pos (by omega)), if_neg (nI_ge h hN)]
theorem gd_n {x : Int32} {N : Nat} (hN : N < 2147483648) (h : ¬ inR x N) : (if x < 0 then some (0 : Int32) else (if nI N ≤ x then some (0 : Int32) else some (1 : Int32))) = some 0 := by
  by_cases h0 : x < 0
  · rw [if_pos h0]
  · rw [if_neg h0, if_pos]
    rw [nIle_iff hN]
    rw [lt0_iff] at h0
    unfold inR at h
    omega
/-! the reference's guard -/
theorem M_in (n : Nat) (a b c : Int64) : fX9_in n a b c = some (if b.toInt ≤ a.toInt ∧ a.toInt ≤ c.toInt then 1 else 0) := by
  unfold fX9_in
  by_cases h1 : a < b
  · have e : lg_cmp a b = -1 := by
      unfold lg_cmp
      rw [if_neg, if_neg]
      · intro q; subst q; exact absurd h1 (by rw [fa_lt64]; omega)
      · intro q; rw [gt_iff_lt, fa_lt64] at q; rw [fa_lt64] at h1; omega
    rw [e, if_pos (by decide), if_neg]
    rw [fa_lt64] at h1
    omega
  · have e : ¬ lg_cmp a b < 0 := by
      unfold lg_cmp
      by_cases q : a > b
      · rw [if_pos q]; decide
      · rw [if_neg q, if_pos]
        · decide
        · rw [gt_iff_lt, fa_lt64] at q; rw [fa_lt64] at h1; rw [fa_eq64]; omega
    rw [if_neg e]
    rw [fa_lt64] at h1
    by_cases h2 : c < a
    · have e2 : lg_cmp a c = 1 := if_pos h2
      rw [e2, if_pos (by decide), if_neg]
      rw [fa_lt64] at h2
      omega
    · have e2 : ¬ 0 < lg_cmp a c := by
        unfold lg_cmp
        rw [if_neg h2]
        by_cases q : a = c
        · rw [if_pos q]; decide
        · rw [if_neg q]; decide
      rw [if_neg e2, if_pos]
      rw [fa_lt64] at h2
      omega
theorem i32_64 (x : Int32) : x.toInt64.toInt = x.toInt := Int32.toInt_toInt64 x
theorem lN_I {N : Nat} (h : N < 2147483648) : (lN N).toInt = (N : Int) := lN_toInt (by omega)
theorem nI_m1 {N : Nat} (h : N < 2147483648) : (nI N - 1).toInt = (N : Int) - 1 := by
  rw [fb_subI] <;> rw [nI_toInt (by omega)] <;> (try rw [show (1 : Int32).toInt = 1 from rfl]) <;> omega
/-- in(x, 0, N - 1) by a literal -/
theorem M_in_y {n j N : Nat} (h : j ≤ N) (hN : N < 2147483648) : fX9_in n (nI j).toInt64 (lN 0) (lN N) = some 1 := by
  rw [M_in, if_pos]
  rw [i32_64, lN_I (by omega), lN_I (by omega), nI_toInt (by omega)]
  omega
theorem M_in_n {n N : Nat} {x : Int32} (hN : N < 2147483647) (h : ¬ inR x (N + 1)) : fX9_in n x.toInt64 (lN 0) (lN N) = some 0 := by
  rw [M_in, if_neg]
  rw [i32_64, lN_I (by omega), lN_I (by omega)]
  unfold inR at h
  omega
/-- in(x, 0, N - 1) by a field -/
theorem M_is_y {n j N : Nat} (h : j < N) (hN : N < 2147483648) : fX9_in n (nI j).toInt64 (lN 0) (nI N - 1).toInt64 = some 1 := by
  rw [M_in, if_pos]
  rw [i32_64, i32_64, lN_I (by omega), nI_m1 hN, nI_toInt (by omega)]
  omega
theorem M_is_n {n N : Nat} {x : Int32} (hN : N < 2147483648) (h : ¬ inR x N) : fX9_in n x.toInt64 (lN 0) (nI N - 1).toInt64 = some 0 := by
  rw [M_in, if_neg]
  rw [i32_64, i32_64, lN_I (by omega), nI_m1 hN]
  unfold inR at h
  omega
theorem fX8_isMeasure_y {n j : Nat} (h : j < 100) : fX8_isMeasure n (nI j) = some 1 := gd_y (N := 100) h (by decide)
theorem fX8_isMeasure_n {n : Nat} {x : Int32} (h : ¬ inR x 100) : fX8_isMeasure n x = some 0 := gd_n (N := 100) (by decide) h
theorem fX4_isSheet_y {n j : Nat} (h : j < 4) : fX4_isSheet n (nI j) = some 1 := gd_y (N := 4) h (by decide)
theorem fX4_isSheet_n {n : Nat} {x : Int32} (h : ¬ inR x 4) : fX4_isSheet n x = some 0 := gd_n (N := 4) (by decide) h
theorem fX8_isHour_y {n j : Nat} (h : j < 24) : fX8_isHour n (nI j) = some 1 := gd_y (N := 24) h (by decide)
theorem fX8_isHour_n {n : Nat} {x : Int32} (h : ¬ inR x 24) : fX8_isHour n x = some 0 := gd_n (N := 24) (by decide) h
theorem fX8_isBlur_y {n j : Nat} (h : j < 6) : fX8_isBlur n (nI j) = some 1 := gd_y (N := 6) h (by decide)
theorem fX8_isBlur_n {n : Nat} {x : Int32} (h : ¬ inR x 6) : fX8_isBlur n x = some 0 := gd_n (N := 6) (by decide) h
theorem fX7_isWord_y {n j N : Nat} (h : j < N) (hN : N < 2147483648) : fX7_isWord n (nI N) (nI j) = some 1 := gd_y h hN
theorem fX7_isWord_n {n N : Nat} {x : Int32} (hN : N < 2147483648) (h : ¬ inR x N) : fX7_isWord n (nI N) x = some 0 := gd_n hN h
theorem fX7_isAsk_y {n j N : Nat} (h : j < N) (hN : N < 2147483648) : fX7_isAsk n (nI N) (nI j) = some 1 := gd_y h hN
theorem fX7_isAsk_n {n N : Nat} {x : Int32} (hN : N < 2147483648) (h : ¬ inR x N) : fX7_isAsk n (nI N) x = some 0 := gd_n hN h
theorem fX1_isPlace_y {n j N : Nat} (h : j < N) (hN : N < 2147483648) : fX1_isPlace n (nI N) (nI j) = some 1 := gd_y h hN
theorem fX1_isPlace_n {n N : Nat} {x : Int32} (hN : N < 2147483648) (h : ¬ inR x N) : fX1_isPlace n (nI N) x = some 0 := gd_n hN h
theorem fX0_isCall_y {n j N : Nat} (h : j < N) (hN : N < 2147483648) : fX0_isCall n (nI N) (nI j) = some 1 := gd_y h hN
theorem fX0_isCall_n {n N : Nat} {x : Int32} (hN : N < 2147483648) (h : ¬ inR x N) : fX0_isCall n (nI N) x = some 0 := gd_n hN h
theorem fX2_isChild_y {n j N : Nat} (h : j < N) (hN : N < 2147483648) : fX2_isChild n (nI N) (nI j) = some 1 := gd_y h hN
theorem fX2_isChild_n {n N : Nat} {x : Int32} (hN : N < 2147483648) (h : ¬ inR x N) : fX2_isChild n (nI N) x = some 0 := gd_n hN h
theorem fX9_isWord_y {n j N : Nat} (h : j < N) (hN : N < 2147483648) : fX9_isWord n (nI N) (nI j) = some 1 := by
  unfold fX9_isWord
  rw [show (0 : Int64) = lN 0 from rfl, M_is_y h hN, bd1_some, rb_1]
theorem fX9_isWord_n {n N : Nat} {x : Int32} (hN : N < 2147483648) (h : ¬ inR x N) : fX9_isWord n (nI N) x = some 0 := by
  unfold fX9_isWord
  rw [show (0 : Int64) = lN 0 from rfl, M_is_n hN h, bd1_some, rb_0]
theorem fX9_isAsk_y {n j N : Nat} (h : j < N) (hN : N < 2147483648) : fX9_isAsk n (nI N) (nI j) = some 1 := by
  unfold fX9_isAsk
  rw [show (0 : Int64) = lN 0 from rfl, M_is_y h hN, bd1_some, rb_1]
theorem fX9_isAsk_n {n N : Nat} {x : Int32} (hN : N < 2147483648) (h : ¬ inR x N) : fX9_isAsk n (nI N) x = some 0 := by
  unfold fX9_isAsk
  rw [show (0 : Int64) = lN 0 from rfl, M_is_n hN h, bd1_some, rb_0]
theorem fX9_isPlace_y {n j N : Nat} (h : j < N) (hN : N < 2147483648) : fX9_isPlace n (nI N) (nI j) = some 1 := by
  unfold fX9_isPlace
  rw [show (0 : Int64) = lN 0 from rfl, M_is_y h hN, bd1_some, rb_1]
theorem fX9_isPlace_n {n N : Nat} {x : Int32} (hN : N < 2147483648) (h : ¬ inR x N) : fX9_isPlace n (nI N) x = some 0 := by
  unfold fX9_isPlace
  rw [show (0 : Int64) = lN 0 from rfl, M_is_n hN h, bd1_some, rb_0]
theorem fX9_isCall_y {n j N : Nat} (h : j < N) (hN : N < 2147483648) : fX9_isCall n (nI N) (nI j) = some 1 := by
  unfold fX9_isCall
  rw [show (0 : Int64) = lN 0 from rfl, M_is_y h hN, bd1_some, rb_1]
theorem fX9_isCall_n {n N : Nat} {x : Int32} (hN : N < 2147483648) (h : ¬ inR x N) : fX9_isCall n (nI N) x = some 0 := by
  unfold fX9_isCall
  rw [show (0 : Int64) = lN 0 from rfl, M_is_n hN h, bd1_some, rb_0]
theorem fX9_isChild_y {n j N : Nat} (h : j < N) (hN : N < 2147483648) : fX9_isChild n (nI N) (nI j) = some 1 := by
  unfold fX9_isChild
  rw [show (0 : Int64) = lN 0 from rfl, M_is_y h hN, bd1_some, rb_1]
theorem fX9_isChild_n {n N : Nat} {x : Int32} (hN : N < 2147483648) (h : ¬ inR x N) : fX9_isChild n (nI N) x = some 0 := by
  unfold fX9_isChild
  rw [show (0 : Int64) = lN 0 from rfl, M_is_n hN h, bd1_some, rb_0]
theorem fX9_isBlur_y {n j : Nat} (h : j < 6) : fX9_isBlur n (nI j) = some 1 := by
  unfold fX9_isBlur
  rw [show (0 : Int64) = lN 0 from rfl, show (5 : Int64) = lN 5 from rfl, M_in_y (by omega) (by decide), bd1_some, rb_1]
theorem fX9_isBlur_n {n : Nat} {x : Int32} (h : ¬ inR x 6) : fX9_isBlur n x = some 0 := by
  unfold fX9_isBlur
  rw [show (0 : Int64) = lN 0 from rfl, show (5 : Int64) = lN 5 from rfl, M_in_n (by decide) h, bd1_some, rb_0]
theorem fX4_isLane_y {n j : Nat} (h : j < 3) : fX4_isLane n (nI j) = some 1 := by
  unfold fX4_isLane
  rw [if_neg (nI_pos (by omega)), show (2 : Int32) = nI 2 from rfl, if_neg (nI_nlt (by omega) (by omega))]
theorem fX4_isLane_n {n : Nat} {x : Int32} (h : ¬ inR x 3) : fX4_isLane n x = some 0 := by
  unfold fX4_isLane
  by_cases h0 : x < 0
  · rw [if_pos h0]
  · rw [if_neg h0, show (2 : Int32) = nI 2 from rfl, if_pos]
    rw [nIlt_iff (by decide)]
    rw [lt0_iff] at h0
    unfold inR at h
    omega
theorem fX8_isTime_y {n d h : Nat} (hd : d < 100) (hh : h < 24) : fX8_isTime n (nI d) (nI h) = some 1 := by
  unfold fX8_isTime
  rw [if_neg (nI_pos (by omega)), show (100 : Int32) = nI 100 from rfl, if_neg (nI_ge hd (by decide)), fX8_isHour_y hh, bd1_some, if_neg (by decide)]
theorem fX8_isTime_n {n : Nat} {x y : Int32} (h : ¬ (inR x 100 ∧ inR y 24)) : fX8_isTime n x y = some 0 := by
  unfold fX8_isTime
  by_cases h0 : x < 0
  · rw [if_pos h0]
  · rw [if_neg h0, show (100 : Int32) = nI 100 from rfl]
    by_cases h1 : nI 100 ≤ x
    · rw [if_pos h1]
    · rw [if_neg h1, fX8_isHour_n, bd1_some, if_pos rfl]
      intro q
      refine h ⟨?_, q⟩
      rw [nIle_iff (by decide)] at h1
      rw [lt0_iff] at h0
      unfold inR
      omega
theorem fX9_isTime_y {n d h : Nat} (hd : d < 100) (hh : h < 24) : fX9_isTime n (nI d) (nI h) = some 1 := by
  unfold fX9_isTime
  rw [show (0 : Int64) = lN 0 from rfl, show (99 : Int64) = lN 99 from rfl, show (23 : Int64) = lN 23 from rfl, M_in_y (by omega) (by decide), bd1_some, if_neg (by decide), M_in_y (by omega) (by decide), bd1_some, if_neg (by decide)]
theorem fX9_isTime_n {n : Nat} {x y : Int32} (h : ¬ (inR x 100 ∧ inR y 24)) : fX9_isTime n x y = some 0 := by
  unfold fX9_isTime
  rw [show (0 : Int64) = lN 0 from rfl, show (99 : Int64) = lN 99 from rfl, show (23 : Int64) = lN 23 from rfl]
  by_cases h1 : inR x 100
  · obtain ⟨j, hj, rfl⟩ := inR_nI h1
    rw [M_in_y (by omega) (by decide), bd1_some, if_neg (by decide), M_in_n (by decide) (fun q => h ⟨h1, q⟩), bd1_some, if_pos rfl]
  · rw [M_in_n (by decide) h1, bd1_some, if_pos rfl]

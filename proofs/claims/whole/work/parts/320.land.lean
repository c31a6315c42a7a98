/-! PLACES, RIDGES -/
def Rld (P G : Nat) (X Y Z RX RH : Nat → Nat) (xs ys hs rx rh : Nat → Int32) (places ridges : Int32) : Prop :=
  P ≤ 10 ∧ G ≤ 6 ∧ places = nI P ∧ ridges = nI G ∧ (∀ i, i < P → X i < 100 ∧ Y i < 100 ∧ Z i < 100 ∧ xs i = nI (X i) ∧ ys i = nI (Y i) ∧ hs i = nI (Z i)) ∧ (∀ i, i < G → RX i < 100 ∧ RH i < 100 ∧ rx i = nI (RX i) ∧ rh i = nI (RH i))
def un (f : Nat → Nat) (k v : Nat) : Nat → Nat := fun j => if j = k then v else f j
theorem un_s {f : Nat → Nat} {k v : Nat} : un f k v k = v := if_pos rfl
theorem un_n {f : Nat → Nat} {k v j : Nat} (h : j ≠ k) : un f k v j = f j := if_neg h
theorem Rld_place {P G : Nat} {X Y Z RX RH : Nat → Nat} {xs ys hs rx rh : Nat → Int32} {p g : Int32} (h : Rld P G X Y Z RX RH xs ys hs rx rh p g) (hP : P < 10) {x y z : Nat} (hx : x < 100) (hy : y < 100) (hz : z < 100) :
    Rld (P + 1) G (un X P x) (un Y P y) (un Z P z) RX RH (upd xs P (nI x)) (upd ys P (nI y)) (upd hs P (nI z)) rx rh (nI (P + 1)) g := by
  obtain ⟨h1, h2, h3, h4, h5, h6⟩ := h
  refine ⟨by omega, h2, rfl, h4, fun i hi => ?_, h6⟩
  by_cases q : i = P
  · subst q
    rw [un_s, un_s, un_s, pk_us, pk_us, pk_us]
    exact ⟨hx, hy, hz, rfl, rfl, rfl⟩
  · rw [un_n q, un_n q, un_n q, pk_un q, pk_un q, pk_un q]
    exact h5 i (by omega)
theorem Rld_ridge {P G : Nat} {X Y Z RX RH : Nat → Nat} {xs ys hs rx rh : Nat → Int32} {p g : Int32} (h : Rld P G X Y Z RX RH xs ys hs rx rh p g) (hG : G < 6) {x z : Nat} (hx : x < 100) (hz : z < 100) :
    Rld P (G + 1) X Y Z (un RX G x) (un RH G z) xs ys hs (upd rx G (nI x)) (upd rh G (nI z)) p (nI (G + 1)) := by
  obtain ⟨h1, h2, h3, h4, h5, h6⟩ := h
  refine ⟨h1, by omega, h3, rfl, h5, fun i hi => ?_⟩
  by_cases q : i = G
  · subst q
    rw [un_s, un_s, pk_us, pk_us]
    exact ⟨hx, hz, rfl, rfl⟩
  · rw [un_n q, un_n q, pk_un q, pk_un q]
    exact h6 i (by omega)
theorem M_99_y {n j : Nat} (h : j < 100) : fX9_in n (nI j).toInt64 (0 : Int64) (99 : Int64) = some 1 := M_in_y (N := 99) (by omega) (by decide)
theorem M_99_n {n : Nat} {x : Int32} (h : ¬ inR x 100) : fX9_in n x.toInt64 (0 : Int64) (99 : Int64) = some 0 := M_in_n (N := 99) (by decide) h
theorem M_23_y {n j : Nat} (h : j < 24) : fX9_in n (nI j).toInt64 (0 : Int64) (23 : Int64) = some 1 := M_in_y (N := 23) (by omega) (by decide)
theorem M_23_n {n : Nat} {x : Int32} (h : ¬ inR x 24) : fX9_in n x.toInt64 (0 : Int64) (23 : Int64) = some 0 := M_in_n (N := 23) (by decide) h
theorem i10 : ¬ (1 : Int32) = 0 := by decide
theorem P_place {n P G : Nat} {X Y Z RX RH : Nat → Nat} {xs ys hs rx rh mxs mys mhs mrx mrh : Nat → Int32} {p g mp mg : Int32} (hX : Rld P G X Y Z RX RH xs ys hs rx rh p g) (hM : Rld P G X Y Z RX RH mxs mys mhs mrx mrh mp mg) (x1 x2 x3 : Int32) :
    ∃ (r : Int32) (f1 f2 f3 g1 g2 g3 : Nat → Int32) (a b : Int32) (P' : Nat) (X' Y' Z' : Nat → Nat), fX8_place n xs ys hs p x1 x2 x3 = some (r, f1, f2, f3, a) ∧ fX9_place n mp mxs mys mhs x1 x2 x3 = some (r, b, g1, g2, g3) ∧ Rld P' G X' Y' Z' RX RH f1 f2 f3 rx rh a g ∧ Rld P' G X' Y' Z' RX RH g1 g2 g3 mrx mrh b mg ∧ P ≤ P' := by
  unfold fX8_place fX9_place
  rcases ixc x1 100 with ⟨x, hx, rfl⟩ | h1
  · rw [fX8_isMeasure_y hx, M_99_y hx, bd1_some, bd1_some, if_neg i10, if_neg i10]
    rcases ixc x2 100 with ⟨y, hy, rfl⟩ | h1
    · rw [fX8_isMeasure_y hy, M_99_y hy, bd1_some, bd1_some, if_neg i10, if_neg i10]
      rcases ixc x3 100 with ⟨z, hz, rfl⟩ | h1
      · rw [fX8_isMeasure_y hz, M_99_y hz, bd1_some, bd1_some, if_neg i10, if_neg i10]
        have hP : p = nI P := hX.2.2.1
        have hP' : mp = nI P := hM.2.2.1
        have hP10 : P ≤ 10 := hX.1
        by_cases q : P < 10
        · refine ⟨nI P, _, _, _, _, _, _, _, _, P + 1, _, _, _, ?_, ?_, Rld_place hX q hx hy hz, Rld_place hM q hx hy hz, by omega⟩
          · unfold fX1_addPlace
            rw [hP, show (10 : Int32) = nI 10 from rfl, if_pos (nI_lt q (by decide)), aw_nI q (by decide), aw_nI q (by decide), aw_nI q (by decide), nm, bd5_some, if_neg i10, nI_1, nI_pred]
          · rw [hP', show (10 : Int32) = nI 10 from rfl, if_neg (by rw [nI_eq (by omega) (by decide)]; omega), aw_nI q (by decide), aw_nI q (by decide), aw_nI q (by decide), nm, nI_1, nI_pred]
        · have e : P = 10 := by omega
          refine ⟨-3, xs, ys, hs, mxs, mys, mhs, p, mp, P, X, Y, Z, ?_, ?_, hX, hM, by omega⟩
          · unfold fX1_addPlace
            rw [hP, e, if_neg (by decide), bd5_some, if_pos rfl]
          · rw [hP', e, if_pos (by decide)]
      · refine ⟨-1, xs, ys, hs, mxs, mys, mhs, p, mp, P, X, Y, Z, ?_, ?_, hX, hM, by omega⟩
        · rw [fX8_isMeasure_n h1, bd1_some, if_pos rfl]
        · rw [M_99_n h1, bd1_some, if_pos rfl]
    · refine ⟨-1, xs, ys, hs, mxs, mys, mhs, p, mp, P, X, Y, Z, ?_, ?_, hX, hM, by omega⟩
      · rw [fX8_isMeasure_n h1, bd1_some, if_pos rfl]
      · rw [M_99_n h1, bd1_some, if_pos rfl]
  · refine ⟨-1, xs, ys, hs, mxs, mys, mhs, p, mp, P, X, Y, Z, ?_, ?_, hX, hM, by omega⟩
    · rw [fX8_isMeasure_n h1, bd1_some, if_pos rfl]
    · rw [M_99_n h1, bd1_some, if_pos rfl]
theorem P_ridge {n P G : Nat} {X Y Z RX RH : Nat → Nat} {xs ys hs rx rh mxs mys mhs mrx mrh : Nat → Int32} {p g mp mg : Int32} (hX : Rld P G X Y Z RX RH xs ys hs rx rh p g) (hM : Rld P G X Y Z RX RH mxs mys mhs mrx mrh mp mg) (x1 x2 : Int32) :
    ∃ (r : Int32) (f1 f2 g1 g2 : Nat → Int32) (a b : Int32) (G' : Nat) (RX' RH' : Nat → Nat), fX8_ridge n rx rh g x1 x2 = some (r, f1, f2, a) ∧ fX9_ridge n mg mrx mrh x1 x2 = some (r, b, g1, g2) ∧ Rld P G' X Y Z RX' RH' xs ys hs f1 f2 p a ∧ Rld P G' X Y Z RX' RH' mxs mys mhs g1 g2 mp b := by
  unfold fX8_ridge fX9_ridge
  rcases ixc x1 100 with ⟨x, hx, rfl⟩ | h1
  · rw [fX8_isMeasure_y hx, M_99_y hx, bd1_some, bd1_some, if_neg i10, if_neg i10]
    rcases ixc x2 100 with ⟨y, hy, rfl⟩ | h1
    · rw [fX8_isMeasure_y hy, M_99_y hy, bd1_some, bd1_some, if_neg i10, if_neg i10]
      have hP : g = nI G := hX.2.2.2.1
      have hP' : mg = nI G := hM.2.2.2.1
      have hG6 : G ≤ 6 := hX.2.1
      by_cases q : G < 6
      · refine ⟨nI (G + 1), _, _, _, _, _, _, G + 1, _, _, ?_, ?_, Rld_ridge hX q hx hy, Rld_ridge hM q hx hy⟩
        · unfold fX1_addRidge
          rw [hP, show (6 : Int32) = nI 6 from rfl, if_pos (nI_lt q (by decide)), aw_nI q (by decide), aw_nI q (by decide), nm, bd4_some, if_neg i10, nI_1]
        · rw [hP', show (6 : Int32) = nI 6 from rfl, if_neg (by rw [nI_eq (by omega) (by decide)]; omega), aw_nI q (by decide), aw_nI q (by decide), nm, nI_1]
      · have e : G = 6 := by omega
        refine ⟨-3, rx, rh, mrx, mrh, g, mg, G, RX, RH, ?_, ?_, hX, hM⟩
        · unfold fX1_addRidge
          rw [hP, e, if_neg (by decide), bd4_some, if_pos rfl]
        · rw [hP', e, if_pos (by decide)]
    · refine ⟨-1, rx, rh, mrx, mrh, g, mg, G, RX, RH, ?_, ?_, hX, hM⟩
      · rw [fX8_isMeasure_n h1, bd1_some, if_pos rfl]
      · rw [M_99_n h1, bd1_some, if_pos rfl]
  · refine ⟨-1, rx, rh, mrx, mrh, g, mg, G, RX, RH, ?_, ?_, hX, hM⟩
    · rw [fX8_isMeasure_n h1, bd1_some, if_pos rfl]
    · rw [M_99_n h1, bd1_some, if_pos rfl]
/-! SHEETS -/
def RS (sl ss sc ml ms mc : Nat → Int32) : Prop := ∀ k, k < 4 → (ml k = -4 ∧ ss k = -1) ∨ ∃ l z, l < 3 ∧ z ≤ 60 ∧ ml k = nI l ∧ sl k = nI l ∧ ms k = nI z ∧ ss k = nI z ∧ ∀ i, i < z → mc (60 * k + i) = sc (60 * k + i)
theorem nI_ne_m {a b : Nat} (ha : a < 2147483648) (hb : b < 2147483648) (h0 : 0 < b) : ¬ nI a = -nI b := by
  intro q
  have e := congrArg Int32.toInt q
  rw [nI_toInt (by omega), sb_negT (by omega)] at e
  omega
theorem ne_m4 {a : Nat} (ha : a < 2147483648) : ¬ nI a = -4 := nI_ne_m (b := 4) ha (by decide) (by decide)
theorem ne_m1 {a : Nat} (ha : a < 2147483648) : ¬ nI a = -1 := nI_ne_m (b := 1) ha (by decide) (by decide)
theorem X_renew {n : Nat} (sl ss : Nat → Int32) {k z : Nat} (hk : k < 4) (hz : z ≤ 60) : ∀ (r q : Nat) (f : Nat → Int32), r ≤ z → r < q → ∃ f', fX4_renew_p17 n sl ss (nI k) (nI z) q f (nI (z - r)) = some (sl, ss, f') ∧ (∀ j, (j < 60 * k + (z - r) ∨ 60 * k + z ≤ j) → f' j = f j) ∧ ∀ t, z - r ≤ t → t < z → f' (60 * k + t) = 0 := by
  intro r
  induction r with
  | zero =>
    intro q f _ hq
    obtain ⟨q, rfl⟩ : ∃ p, q = p + 1 := ⟨q - 1, by omega⟩
    refine ⟨f, ?_, fun _ _ => rfl, fun t h1 h2 => absurd h1 (by omega)⟩
    rw [fX4_renew_p17, if_pos (nI_le (by omega) (by omega))]
  | succ r ih =>
    intro q f hr hq
    obtain ⟨q, rfl⟩ : ∃ p, q = p + 1 := ⟨q - 1, by omega⟩
    obtain ⟨f', h1, h2, h3⟩ := ih q (upd f (60 * k + (z - (r + 1))) 0) (by omega) (by omega)
    refine ⟨f', ?_, fun j hj => ?_, fun t ht1 ht2 => ?_⟩
    · rw [fX4_renew_p17, if_neg (nI_ge (by omega) (by omega)), show (60 : Int32) = nI 60 from rfl, pk_mul, nI_add, Nat.mul_comm k 60, aw_nI (by omega) (by decide), nI_1, show z - (r + 1) + 1 = z - r from by omega]
      exact h1
    · rw [h2 j (by omega), pk_un (by omega)]
    · by_cases e : t = z - (r + 1)
      · subst e
        rw [h2 _ (by omega), pk_us]
      · exact h3 t (by omega) ht2
theorem M_renew {n : Nat} (sl ss : Nat → Int32) {k : Nat} (hk : k < 4) : ∀ (r q : Nat) (f : Nat → Int32), r ≤ 60 → r < q → ∃ f', fX9_sheet_p40 n sl ss (nI k) q f (nI (60 - r)) = some (1, sl, ss, f') ∧ (∀ j, (j < 60 * k + (60 - r) ∨ 60 * k + 60 ≤ j) → f' j = f j) ∧ ∀ t, 60 - r ≤ t → t < 60 → f' (60 * k + t) = 0 := by
  intro r
  induction r with
  | zero =>
    intro q f _ hq
    obtain ⟨q, rfl⟩ : ∃ p, q = p + 1 := ⟨q - 1, by omega⟩
    refine ⟨f, ?_, fun _ _ => rfl, fun t h1 h2 => absurd h1 (by omega)⟩
    rw [fX9_sheet_p40, if_pos (by decide)]
  | succ r ih =>
    intro q f hr hq
    obtain ⟨q, rfl⟩ : ∃ p, q = p + 1 := ⟨q - 1, by omega⟩
    obtain ⟨f', h1, h2, h3⟩ := ih q (upd f (60 * k + (60 - (r + 1))) 0) (by omega) (by omega)
    refine ⟨f', ?_, fun j hj => ?_, fun t ht1 ht2 => ?_⟩
    · rw [fX9_sheet_p40, show (60 : Int32) = nI 60 from rfl, if_neg (nI_ge (by omega) (by omega)), pk_mul, nI_add, aw_nI (by omega) (by decide), nI_1, show 60 - (r + 1) + 1 = 60 - r from by omega]
      exact h1
    · rw [h2 j (by omega), pk_un (by omega)]
    · by_cases e : t = 60 - (r + 1)
      · subst e
        rw [h2 _ (by omega), pk_us]
      · exact h3 t (by omega) ht2
theorem M_3_y {n j : Nat} (h : j < 4) : fX9_in n (nI j).toInt64 (0 : Int64) (3 : Int64) = some 1 := M_in_y (N := 3) (by omega) (by decide)
theorem M_3_n {n : Nat} {x : Int32} (h : ¬ inR x 4) : fX9_in n x.toInt64 (0 : Int64) (3 : Int64) = some 0 := M_in_n (N := 3) (by decide) h
theorem M_2_y {n j : Nat} (h : j < 3) : fX9_in n (nI j).toInt64 (0 : Int64) (2 : Int64) = some 1 := M_in_y (N := 2) (by omega) (by decide)
theorem M_2_n {n : Nat} {x : Int32} (h : ¬ inR x 3) : fX9_in n x.toInt64 (0 : Int64) (2 : Int64) = some 0 := M_in_n (N := 2) (by decide) h
theorem M_1_y {n j : Nat} (h : j < 2) : fX9_in n (nI j).toInt64 (0 : Int64) (1 : Int64) = some 1 := M_in_y (N := 1) (by omega) (by decide)
theorem M_1_n {n : Nat} {x : Int32} (h : ¬ inR x 2) : fX9_in n x.toInt64 (0 : Int64) (1 : Int64) = some 0 := M_in_n (N := 1) (by decide) h
theorem P_sheet {n : Nat} (hn : 1000 ≤ n) {sl ss sc ml ms mc : Nat → Int32} (h : RS sl ss sc ml ms mc) (x1 x2 x3 : Int32) :
    ∃ (r : Int32) (f1 f2 f3 g1 g2 g3 : Nat → Int32), fX8_sheet n sl ss sc x1 x2 x3 = some (r, f1, f2, f3) ∧ fX9_sheet n ml ms mc x1 x2 x3 = some (r, g1, g2, g3) ∧ RS f1 f2 f3 g1 g2 g3 := by
  unfold fX8_sheet fX9_sheet fX9_isSheet
  rcases ixc x1 4 with ⟨k, hk, rfl⟩ | h1
  · rw [fX4_isSheet_y hk, M_3_y hk, bd1_some, bd1_some, if_neg i10, if_neg i10]
    rcases ixc x2 3 with ⟨l, hl, rfl⟩ | h1
    · rw [fX4_isLane_y hl, M_2_y hl, bd1_some, bd1_some, if_neg i10, if_neg i10, bd1_some, if_neg i10]
      by_cases q : x3 ≤ 60
      · rw [if_pos q, if_pos q]
        by_cases q0 : 0 ≤ x3
        · rw [if_pos q0, if_pos q0]
          obtain ⟨z, hz, rfl⟩ : ∃ z, z < 61 ∧ x3 = nI z := by
            refine inR_nI ⟨?_, ?_⟩
            · rw [le0_iff] at q0; exact q0
            · have := (lenI_iff (N := 60) (by decide) x3).mp q; omega
          obtain ⟨f', x1, x2, x3⟩ := X_renew (n := n) (upd sl k (nI l)) (upd ss k (nI z)) hk (by omega : z ≤ 60) z n sc (by omega) (by omega)
          obtain ⟨g', y1, y2, y3⟩ := M_renew (n := n) (upd ml k (nI l)) (upd ms k (nI z)) hk 60 n mc (by omega) (by omega)
          refine ⟨1, upd sl k (nI l), upd ss k (nI z), f', upd ml k (nI l), upd ms k (nI z), g', ?_, ?_, fun a ha => ?_⟩
          · unfold fX4_renew
            have x1' : fX4_renew_p17 n (upd sl k (nI l)) (upd ss k (nI z)) (nI k) (nI z) n sc 0 = some (upd sl k (nI l), upd ss k (nI z), f') := by
              have := x1
              rw [Nat.sub_self] at this
              exact this
            rw [aw_nI hk (by decide), aw_nI hk (by decide), x1', bd3_some]
          · rw [aw_nI hk (by decide), aw_nI hk (by decide)]
            exact y1
          · by_cases e : a = k
            · subst e
              refine Or.inr ⟨l, z, hl, by omega, by rw [pk_us], by rw [pk_us], by rw [pk_us], by rw [pk_us], fun i hi => ?_⟩
              rw [x3 i (by omega) hi, y3 i (by omega) (by omega)]
            · rw [pk_un e, pk_un e, pk_un e, pk_un e]
              rcases h a ha with h1 | ⟨l', z', e1, e2, e3, e4, e5, e6, e7⟩
              · exact Or.inl h1
              · refine Or.inr ⟨l', z', e1, e2, e3, e4, e5, e6, fun i hi => ?_⟩
                rw [x2 _ (by omega), y2 _ (by omega)]
                exact e7 i hi
        · rw [if_neg q0, if_neg q0]
          exact ⟨-14, sl, ss, sc, ml, ms, mc, rfl, rfl, h⟩
      · rw [if_neg q, if_neg q]
        exact ⟨-1, sl, ss, sc, ml, ms, mc, rfl, rfl, h⟩
    · refine ⟨-1, sl, ss, sc, ml, ms, mc, ?_, ?_, h⟩
      · rw [fX4_isLane_n h1, bd1_some, if_pos rfl]
      · rw [M_2_n h1, bd1_some, if_pos rfl, bd1_some, if_pos rfl]
  · refine ⟨-1, sl, ss, sc, ml, ms, mc, ?_, ?_, h⟩
    · rw [fX4_isSheet_n h1, bd1_some, if_pos rfl]
    · rw [M_3_n h1, bd1_some, if_pos rfl, bd1_some, if_pos rfl]

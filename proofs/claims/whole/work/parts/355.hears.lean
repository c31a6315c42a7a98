/-! blur, hears -/
/-- the winds of all hours -/
def okWs (n : Nat) (sl ss sc ml ms mc : Nat → Int32) (wv : Nat → Int32) : Prop := ∀ t, t < 24 → fX4_windAt n sl ss sc (nI t) = some (wv t) ∧ fX9_windOf n ml ms mc (nI t) = some (wv t) ∧ okW (wv t)
theorem P_winds {n : Nat} {sl ss sc ml ms mc : Nat → Int32} (h : RS sl ss sc ml ms mc) : ∃ wv, okWs n sl ss sc ml ms mc wv := by
  have h1 : ∀ t, ∃ w, t < 24 → fX4_windAt n sl ss sc (nI t) = some w ∧ fX9_windOf n ml ms mc (nI t) = some w ∧ okW w := by
    intro t
    by_cases q : t < 24
    · obtain ⟨w, f, a, b, -, -, c⟩ := P_windv (n := n) h q
      exact ⟨w, fun _ => ⟨a, b, c⟩⟩
    · exact ⟨0, fun z => absurd z q⟩
  exact ⟨fun t => Classical.choose (h1 t), fun t ht => Classical.choose_spec (h1 t) ht⟩
section HR
variable {n P G : Nat} {X Y Z RX RH : Nat → Nat} {xs ys hs rx rh mxs mys mhs mrx mrh sl ss sc ml ms mc : Nat → Int32} {p g mp mg : Int32} {wv : Nat → Int32}
theorem P_blur (hn : 1000 ≤ n) (hX : Rld P G X Y Z RX RH xs ys hs rx rh p g) (hM : Rld P G X Y Z RX RH mxs mys mhs mrx mrh mp mg) (hS : RS sl ss sc ml ms mc) (x1 x2 x3 : Int32) :
    ∃ r : Int32, fX8_blur n sl ss sc xs ys hs rx rh p g x1 x2 x3 = some r ∧ fX9_blur n mp mxs mys mhs mg mrx mrh ml ms mc x1 x2 x3 = some r := by
  obtain ⟨wv, hw⟩ := P_winds (n := n) hS
  have hP : p = nI P := hX.2.2.1
  have hP' : mp = nI P := hM.2.2.1
  have hP10 : P ≤ 10 := hX.1
  unfold fX8_blur fX9_blur
  rw [hP, hP']
  rcases ixc x1 P with ⟨a, ha, rfl⟩ | h1
  · rw [fX1_isPlace_y ha (by omega), fX9_isPlace_y ha (by omega), bd1_some, bd1_some, if_neg i10, if_neg i10]
    rcases ixc x2 P with ⟨b, hb, rfl⟩ | h1
    · rw [fX1_isPlace_y hb (by omega), fX9_isPlace_y hb (by omega), bd1_some, bd1_some, if_neg i10, if_neg i10]
      rcases ixc x3 24 with ⟨t, ht, rfl⟩ | h1
      · obtain ⟨w1, w2, w3⟩ := hw t ht
        rw [fX8_isHour_y ht, M_23_y ht, bd1_some, bd1_some, if_neg i10, if_neg i10, X_blur hn w3 w1 hX ha hb, M_blur hn w3 w2 hM ha hb, bd1_some]
        exact ⟨_, rfl, rfl⟩
      · rw [fX8_isHour_n h1, M_23_n h1, bd1_some, bd1_some, if_pos rfl, if_pos rfl]
        exact ⟨_, rfl, rfl⟩
    · rw [fX1_isPlace_n (by omega) h1, fX9_isPlace_n (by omega) h1, bd1_some, bd1_some, if_pos rfl, if_pos rfl]
      exact ⟨_, rfl, rfl⟩
  · rw [fX1_isPlace_n (by omega) h1, fX9_isPlace_n (by omega) h1, bd1_some, bd1_some, if_pos rfl, if_pos rfl]
    exact ⟨_, rfl, rfl⟩
/-- who HEARS a PLACE -/
def hrB (X Y Z RX RH : Nat → Nat) (G : Nat) (w : Int32) (a b : Nat) : Bool := decide (b ≠ a) && decide (blS X Y Z RX RH G w a b ≤ 5)
def hrO (X Y Z RX RH : Nat → Nat) (G : Nat) (w : Int32) (a b : Nat) : Bool := decide (b ≠ a) && decide (blS X Y Z RX RH G w b a ≤ 5)
theorem blS_lt (X Y Z RX RH : Nat → Nat) {G : Nat} (hG : G ≤ 6) {w : Int32} (hw : okW w) {a b : Nat} (h1 : X a < 100 ∧ Y a < 100) (h2 : X b < 100 ∧ Y b < 100) : blS X Y Z RX RH G w a b < 100 := by
  unfold blS
  have hd := rdg_le X Z RX RH a b G
  have dr := drf_in (X := X) hw a b
  have du : dst X Y a b < 400 := by unfold dst; omega
  split
  · decide
  · omega
theorem X_hearers (hn : 1000 ≤ n) (hX : Rld P G X Y Z RX RH xs ys hs rx rh p g) {w : Int32} (hw : okW w) {t a : Nat} (hW : fX4_windAt n sl ss sc (nI t) = some w) (ha : a < P) : fX1_hearersOf n sl ss sc xs ys hs rx rh p g (nI a) (nI t) = some (nI (mk (hrB X Y Z RX RH G w a) P)) := by
  unfold fX1_hearersOf
  have hP : p = nI P := hX.2.2.1
  have hP10 : P ≤ 10 := hX.1
  have hG : G ≤ 6 := hX.2.1
  have h5 := hX.2.2.2.2.1
  have h : ∀ (d k r : Nat), r + d = P → d < k → fX1_hearersOf_p5 n sl ss sc xs ys hs rx rh p g (nI a) (nI t) k (nI (mk (hrB X Y Z RX RH G w a) r)) (nI r) = some (nI (mk (hrB X Y Z RX RH G w a) P)) := by
    intro d
    induction d with
    | zero =>
      intro k r hr hk
      obtain ⟨k, rfl⟩ : ∃ q, k = q + 1 := ⟨k - 1, by omega⟩
      rw [fX1_hearersOf_p5, hP, if_pos (nI_le (by omega) (by omega)), show r = P from by omega]
    | succ d ih =>
      intro k r hr hk
      obtain ⟨k, rfl⟩ : ∃ q, k = q + 1 := ⟨k - 1, by omega⟩
      have hi := ih k (r + 1) (by omega) (by omega)
      have hb := blS_lt X Y Z RX RH hG hw (a := a) (b := r) ⟨(h5 a ha).1, (h5 a ha).2.1⟩ ⟨(h5 r (by omega)).1, (h5 r (by omega)).2.1⟩
      rw [fX1_hearersOf_p5, hP, if_neg (nI_ge (by omega) (by omega)), ← hP]
      by_cases e : r = a
      · rw [if_pos (by rw [e]), nI_1]
        rw [mk_no (by unfold hrB; simp [e])] at hi
        exact hi
      · rw [if_neg (by rw [nI_eq (by omega) (by omega)]; exact e), X_blur hn hw hW hX ha (by omega : r < P), bd1_some, show (5 : Int32) = nI 5 from rfl]
        by_cases q : 5 < blS X Y Z RX RH G w a r
        · rw [if_pos (nI_lt q (by omega)), nI_1]
          rw [mk_no (by unfold hrB; simp [e]; omega)] at hi
          exact hi
        · rw [if_neg (nI_nlt (by omega) (by omega)), nm, or_mk (by omega) (by unfold hrB; simp [e]; omega), nI_1]
          exact hi
  exact h P n 0 (by omega) (by omega)
theorem X_heardFrom (hn : 1000 ≤ n) (hX : Rld P G X Y Z RX RH xs ys hs rx rh p g) {w : Int32} (hw : okW w) {t a : Nat} (hW : fX4_windAt n sl ss sc (nI t) = some w) (ha : a < P) : fX1_heardFrom n sl ss sc xs ys hs rx rh p g (nI a) (nI t) = some (nI (mk (hrO X Y Z RX RH G w a) P)) := by
  unfold fX1_heardFrom
  have hP : p = nI P := hX.2.2.1
  have hP10 : P ≤ 10 := hX.1
  have hG : G ≤ 6 := hX.2.1
  have h5 := hX.2.2.2.2.1
  have h : ∀ (d k r : Nat), r + d = P → d < k → fX1_heardFrom_p5 n sl ss sc xs ys hs rx rh p g (nI a) (nI t) k (nI (mk (hrO X Y Z RX RH G w a) r)) (nI r) = some (nI (mk (hrO X Y Z RX RH G w a) P)) := by
    intro d
    induction d with
    | zero =>
      intro k r hr hk
      obtain ⟨k, rfl⟩ : ∃ q, k = q + 1 := ⟨k - 1, by omega⟩
      rw [fX1_heardFrom_p5, hP, if_pos (nI_le (by omega) (by omega)), show r = P from by omega]
    | succ d ih =>
      intro k r hr hk
      obtain ⟨k, rfl⟩ : ∃ q, k = q + 1 := ⟨k - 1, by omega⟩
      have hi := ih k (r + 1) (by omega) (by omega)
      have hb := blS_lt X Y Z RX RH hG hw (a := r) (b := a) ⟨(h5 r (by omega)).1, (h5 r (by omega)).2.1⟩ ⟨(h5 a ha).1, (h5 a ha).2.1⟩
      rw [fX1_heardFrom_p5, hP, if_neg (nI_ge (by omega) (by omega)), ← hP]
      by_cases e : r = a
      · rw [if_pos (by rw [e]), nI_1]
        rw [mk_no (by unfold hrO; simp [e])] at hi
        exact hi
      · rw [if_neg (by rw [nI_eq (by omega) (by omega)]; exact e), X_blur hn hw hW hX (by omega : r < P) ha, bd1_some, show (5 : Int32) = nI 5 from rfl]
        by_cases q : 5 < blS X Y Z RX RH G w r a
        · rw [if_pos (nI_lt q (by omega)), nI_1]
          rw [mk_no (by unfold hrO; simp [e]; omega)] at hi
          exact hi
        · rw [if_neg (nI_nlt (by omega) (by omega)), nm, or_mk (by omega) (by unfold hrO; simp [e]; omega), nI_1]
          exact hi
  exact h P n 0 (by omega) (by omega)
theorem M_doesHear (hn : 1000 ≤ n) (hX : Rld P G X Y Z RX RH xs ys hs rx rh p g) {w : Int32} (hw : okW w) {t a b : Nat} (hW : fX9_windOf n sl ss sc (nI t) = some w) (ha : a < P) (hb : b < P) : fX9_doesHear n xs ys hs g rx rh sl ss sc (nI a) (nI b) (nI t) = some (if hrB X Y Z RX RH G w a b = true then 1 else 0) := by
  have hP10 : P ≤ 10 := hX.1
  have hG : G ≤ 6 := hX.2.1
  have h5 := hX.2.2.2.2.1
  have hl := blS_lt X Y Z RX RH hG hw (a := a) (b := b) ⟨(h5 a ha).1, (h5 a ha).2.1⟩ ⟨(h5 b hb).1, (h5 b hb).2.1⟩
  unfold fX9_doesHear hrB
  by_cases e : a = b
  · subst e
    rw [if_pos rfl]
    simp
  · rw [if_neg (by rw [nI_eq (by omega) (by omega)]; exact e), M_blur hn hw hW hX ha hb, bd1_some, show (5 : Int32) = nI 5 from rfl]
    by_cases q : 5 < blS X Y Z RX RH G w a b
    · rw [if_pos (nI_lt q (by omega)), if_neg (by simp; omega)]
    · rw [if_neg (nI_nlt (by omega) (by omega)), if_pos (by simp; exact ⟨fun z => e z.symm, by omega⟩)]
theorem hrO_eq {G : Nat} {w : Int32} {a b : Nat} : hrO X Y Z RX RH G w a b = hrB X Y Z RX RH G w b a := by
  unfold hrO hrB
  by_cases e : a = b
  · subst e; rfl
  · have e2 : ¬ b = a := fun z => e z.symm
    simp [e, e2]
theorem P_hears (hn : 1000 ≤ n) (hX : Rld P G X Y Z RX RH xs ys hs rx rh p g) (hM : Rld P G X Y Z RX RH mxs mys mhs mrx mrh mp mg) (hS : RS sl ss sc ml ms mc) (x1 x2 x3 : Int32) :
    ∃ r : Int32, fX8_hears n sl ss sc xs ys hs rx rh p g x1 x2 x3 = some r ∧ fX9_hears n mp mxs mys mhs mg mrx mrh ml ms mc x1 x2 x3 = some r := by
  obtain ⟨wv, hwv⟩ := P_winds (n := n) hS
  have hP : p = nI P := hX.2.2.1
  have hP' : mp = nI P := hM.2.2.1
  have hP10 : P ≤ 10 := hX.1
  rcases ixc x1 P with ⟨a, ha, rfl⟩ | h1
  · rcases ixc x2 24 with ⟨t, ht, rfl⟩ | h2
    · obtain ⟨w1, w2, hw⟩ := hwv t ht
      generalize hw0 : wv t = w at w1 w2 hw
      have loop : ∀ (d k r : Nat), r + d = P → d < k → fX9_hears_p43 n mp mxs mys mhs mg mrx mrh ml ms mc (nI a) (nI t) x3 k (nI (mk (hrB X Y Z RX RH G w a) r)) (nI (fb_ct (hrO X Y Z RX RH G w a) r)) (nI r) = fX9_hears_p103 n x3 (nI (mk (hrB X Y Z RX RH G w a) P)) (nI (fb_ct (hrO X Y Z RX RH G w a) P)) := by
        intro d
        induction d with
        | zero =>
          intro k r hr hk
          obtain ⟨k, rfl⟩ : ∃ q, k = q + 1 := ⟨k - 1, by omega⟩
          rw [fX9_hears_p43, hP', if_pos (nI_le (by omega) (by omega)), show r = P from by omega]
        | succ d ih =>
          intro k r hr hk
          obtain ⟨k, rfl⟩ : ∃ q, k = q + 1 := ⟨k - 1, by omega⟩
          have hi := ih k (r + 1) (by omega) (by omega)
          have tail : ∀ s1 : Int32, nI (mk (hrB X Y Z RX RH G w a) r) ||| s1 = nI (mk (hrB X Y Z RX RH G w a) (r + 1)) → fX9_hears_p73 n mp mxs mys mhs mg mrx mrh ml ms mc (nI a) (nI t) x3 (nI (fb_ct (hrO X Y Z RX RH G w a) r)) (nI r) (nI (mk (hrB X Y Z RX RH G w a) r)) s1 (fX9_hears_p43 n mp mxs mys mhs mg mrx mrh ml ms mc (nI a) (nI t) x3 k) = fX9_hears_p103 n x3 (nI (mk (hrB X Y Z RX RH G w a) P)) (nI (fb_ct (hrO X Y Z RX RH G w a) P)) := by
            intro s1 hs1
            unfold fX9_hears_p73
            rw [nm, hs1, M_doesHear hn hM hw w2 (by omega : r < P) ha, bd1_some]
            rw [fb_ct_succ, hrO_eq] at hi
            by_cases q : hrB X Y Z RX RH G w r a = true
            · rw [if_pos q] at hi
              rw [if_pos q, if_neg i10, nm, nI_1, nI_1]
              exact hi
            · rw [if_neg q] at hi
              rw [if_neg q, if_pos rfl, nm, i0nI, nI_add, nI_1]
              exact hi
          rw [fX9_hears_p43, hP', if_neg (nI_ge (by omega) (by omega)), ← hP', M_doesHear hn hM hw w2 ha (by omega : r < P), bd1_some]
          by_cases q : hrB X Y Z RX RH G w a r = true
          · rw [if_pos q, if_neg i10]
            exact tail _ (or_mk (by omega) q)
          · rw [if_neg q, if_pos rfl]
            exact tail _ (by rw [mk_no (by simpa using q), i0nI, fa_or, Nat.or_zero])
      have hb1 : mk (hrB X Y Z RX RH G w a) P < 65536 := Nat.lt_of_lt_of_le (mk_lt _ _) (Nat.pow_le_pow_right (by decide : 0 < 2) (by omega : P ≤ 16))
      have hb2 : mk (hrO X Y Z RX RH G w a) P < 65536 := Nat.lt_of_lt_of_le (mk_lt _ _) (Nat.pow_le_pow_right (by decide : 0 < 2) (by omega : P ≤ 16))
      have l0 : fX9_hears_p43 n mp mxs mys mhs mg mrx mrh ml ms mc (nI a) (nI t) x3 n 0 0 0 = _ := loop P n 0 (by omega) (by omega)
      unfold fX8_hears fX9_hears
      rw [hP, fX1_isPlace_y ha (by omega), fX8_isHour_y ht, ← hP, X_hearers hn hX hw w1 ha, X_heardFrom hn hX hw w1 ha, hP', fX9_isPlace_y ha (by omega), ← hP', M_23_y ht, l0]
      simp only [bd1_some, if_neg i10, J_bitCount hb1, J_bitCount hb2]
      rcases ixc x3 3 with ⟨j, hj, rfl⟩ | h3
      · rw [M_2_y hj, bd1_some, if_neg i10]
        unfold fX9_hears_p103
        rw [M_bits hn hb1, ct_mk (by omega), ct_mk (by omega)]
        rcases (show j = 0 ∨ j = 1 ∨ j = 2 by omega) with rfl | rfl | rfl
        · exact ⟨_, rfl, rfl⟩
        · exact ⟨_, rfl, rfl⟩
        · exact ⟨_, rfl, rfl⟩
      · rw [M_2_n h3, bd1_some, if_pos rfl, if_neg (fun z => h3 (by rw [z]; exact nI_inR (j := 0) (by decide) (by decide))), if_neg (fun z => h3 (by rw [z]; exact nI_inR (j := 1) (by decide) (by decide))), if_neg (fun z => h3 (by rw [z]; exact nI_inR (j := 2) (by decide) (by decide)))]
        exact ⟨_, rfl, rfl⟩
    · unfold fX8_hears fX9_hears
      rw [hP, hP', fX1_isPlace_y ha (by omega), fX9_isPlace_y ha (by omega), fX8_isHour_n h2, M_23_n h2]
      simp only [bd1_some, if_neg i10]
      exact ⟨_, rfl, rfl⟩
  · unfold fX8_hears fX9_hears
    rw [hP, hP', fX1_isPlace_n (by omega) h1, fX9_isPlace_n (by omega) h1, bd1_some, bd1_some, if_pos rfl, if_pos rfl]
    exact ⟨_, rfl, rfl⟩
end HR

/-! BLUR from a PLACE to another one, on both sides one number -/
def dst (X Y : Nat → Nat) (a b : Nat) : Nat := ((X a - X b) + (X b - X a)) + ((Y a - Y b) + (Y b - Y a))
def rdg (X Z RX RH : Nat → Nat) (a b : Nat) : Nat → Nat
  | 0 => 0
  | r + 1 => rdg X Z RX RH a b r + (if min (X a) (X b) < RX r ∧ RX r ≤ max (X a) (X b) then (if Z a < RH r then 1 else 0) + (if Z b < RH r then 1 else 0) else 0)
def drf (X : Nat → Nat) (w : Int32) (a b : Nat) : Int := if w = 9 then 2 else if X a < X b then -w.toInt else if X b < X a then w.toInt else 0
def blS (X Y Z RX RH : Nat → Nat) (G : Nat) (w : Int32) (a b : Nat) : Nat := if a = b then 0 else (((dst X Y a b / 20 + rdg X Z RX RH a b G : Nat) : Int) + drf X w a b).toNat
theorem rdg_le (X Z RX RH : Nat → Nat) (a b : Nat) : ∀ G, rdg X Z RX RH a b G ≤ 2 * G
  | 0 => Nat.le_refl 0
  | r + 1 => by
    have h := rdg_le X Z RX RH a b r
    rw [rdg]
    split
    · split <;> split <;> omega
    · omega
def okW (w : Int32) : Prop := w = 9 ∨ (-2 ≤ w.toInt ∧ w.toInt ≤ 2)
theorem drf_in {X : Nat → Nat} {w : Int32} (h : okW w) (a b : Nat) : -2 ≤ drf X w a b ∧ drf X w a b ≤ 2 := by
  unfold drf
  rcases h with rfl | h
  · rw [if_pos rfl]; omega
  · split
    · omega
    · split
      · omega
      · split <;> omega
section BL
variable {n P G : Nat} {X Y Z RX RH : Nat → Nat} {xs ys hs rx rh : Nat → Int32} {p g : Int32}
theorem X_ridges (h : Rld P G X Y Z RX RH xs ys hs rx rh p g) {a b : Nat} (ha : a < P) (hb : b < P) : ∀ (d k r : Nat), r + d = G → d < k → fX1_blurOfRidges_p39 n hs rx rh g (nI a) (nI b) (nI (min (X a) (X b))) (nI (max (X a) (X b))) k (nI (rdg X Z RX RH a b r)) (nI r) = some (nI (rdg X Z RX RH a b G)) := by
  obtain ⟨h1, h2, rfl, rfl, h5, h6⟩ := h
  intro d
  induction d with
  | zero =>
    intro k r hr hk
    obtain ⟨k, rfl⟩ : ∃ q, k = q + 1 := ⟨k - 1, by omega⟩
    rw [fX1_blurOfRidges_p39, if_pos (nI_le (by omega) (by omega)), show r = G from by omega]
  | succ d ih =>
    intro k r hr hk
    obtain ⟨k, rfl⟩ : ∃ q, k = q + 1 := ⟨k - 1, by omega⟩
    obtain ⟨q1, q2, q3, q4⟩ := h6 r (by omega)
    obtain ⟨xa, ya, za, e1, e2, e3⟩ := h5 a ha
    obtain ⟨xb, yb, zb, f1, f2, f3⟩ := h5 b hb
    have hd := rdg_le X Z RX RH a b r
    have hi := ih k (r + 1) (by omega) (by omega)
    rw [rdg] at hi
    rw [fX1_blurOfRidges_p39, if_neg (nI_ge (by omega) (by omega)), ar_nI (by omega) (by decide), q3]
    by_cases c1 : RX r ≤ min (X a) (X b)
    · rw [if_pos (nI_le c1 (by omega)), nI_1]
      rw [if_neg (by omega)] at hi
      exact hi
    · rw [if_neg (nI_ge (by omega) (by omega)), ar_nI (by omega) (by decide), q3]
      by_cases c2 : max (X a) (X b) < RX r
      · rw [if_pos (nI_lt c2 (by omega)), nI_1]
        rw [if_neg (by omega)] at hi
        exact hi
      · rw [if_neg (nI_nlt (by omega) (by omega)), ar_nI (by omega) (by decide), q4, ar_nI (by omega) (by decide), e3]
        rw [if_pos (by omega)] at hi
        by_cases c3 : Z a < RH r
        · rw [if_pos c3] at hi
          rw [if_neg (nI_ge c3 (by omega)), fX1_blurOfRidges_p94, nm, ar_nI (by omega) (by decide), q4, ar_nI (by omega) (by decide), f3]
          by_cases c4 : Z b < RH r
          · rw [if_pos c4] at hi
            rw [if_neg (nI_ge c4 (by omega)), nm, nI_1, nI_1, nI_1]
            exact hi
          · rw [if_neg c4] at hi
            rw [if_pos (nI_le (by omega) (by omega)), nm, nI_1, nI_1, i0nI, nI_add]
            exact hi
        · rw [if_neg c3] at hi
          rw [if_pos (nI_le (by omega) (by omega)), fX1_blurOfRidges_p94, nm, ar_nI (by omega) (by decide), q4, ar_nI (by omega) (by decide), f3]
          by_cases c4 : Z b < RH r
          · rw [if_pos c4] at hi
            rw [if_neg (nI_ge c4 (by omega)), nm, i0nI, nI_add, nI_1, nI_1]
            rw [Nat.zero_add] at hi
            exact hi
          · rw [if_neg c4] at hi
            rw [if_pos (nI_le (by omega) (by omega)), nm, i0nI, nI_add, nI_add, nI_1]
            exact hi
theorem absd {a b : Nat} (ha : a < 1000) (hb : b < 1000) : (if 0 ≤ nI a - nI b then nI a - nI b else 0 - (nI a - nI b)) = nI ((a - b) + (b - a)) := by
  rcases Nat.le_total b a with q | q
  · rw [pk_sub q, if_pos (nI_pos' (by omega)), show b - a = 0 from by omega, Nat.add_zero]
  · by_cases e : a = b
    · subst e
      rw [pk_sub (Nat.le_refl _), if_pos (nI_pos' (by omega)), Nat.sub_self]
    · rw [if_neg]
      · apply Int32.toInt_inj.mp
        have t := pk_sub_toInt (a := a) (b := b) (by omega) (by omega)
        rw [fb_subI] <;> rw [Int32.toInt_zero, t]
        · rw [nI_toInt (by omega)]; omega
        · omega
        · omega
      · rw [le0_iff, pk_sub_toInt (by omega) (by omega)]
        omega
theorem M_plain {a b : Nat} (ha : a < 1000) (hb : b < 1000) : fX9_plain n (nI a - nI b) = some (nI ((a - b) + (b - a))) := by
  rw [← absd ha hb]
  unfold fX9_plain
  by_cases q : 0 ≤ nI a - nI b
  · rw [if_pos q, if_pos q]
  · rw [if_neg q, if_neg q, Int32.zero_sub]
theorem J_signum_all : ∀ d, d < 199 → fJ6_signum_0f7a4 0 (nI d - nI 99) = some (if d < 99 then -1 else if d = 99 then 0 else 1) := by decide +kernel
theorem J_signum {a b : Nat} (ha : a < 100) (hb : b < 100) : fJ6_signum_0f7a4 n (nI a - nI b) = some (if a < b then -1 else if a = b then 0 else 1) := by
  have e : nI a - nI b = nI (a + 99 - b) - nI 99 := by
    apply Int32.toInt_inj.mp
    rw [pk_sub_toInt (by omega) (by omega), pk_sub_toInt (by omega) (by omega)]
    omega
  have h := J_signum_all (a + 99 - b) (by omega)
  rw [e]
  refine Eq.trans (h : fJ6_signum_0f7a4 n _ = _) ?_
  by_cases c1 : a < b
  · rw [if_pos (by omega), if_pos c1]
  · rw [if_neg (by omega), if_neg c1]
    by_cases c2 : a = b
    · rw [if_pos (by omega), if_pos c2]
    · rw [if_neg (by omega), if_neg c2]
/-- held to 0 at least -/
theorem hold0 {u : Nat} {v : Int32} {z : Int} (hu : u < 1000) (hv : v.toInt = z) (hz1 : -2 ≤ z) (hz2 : z ≤ 2) : (nI u + v).toInt = (u : Int) + z := by
  rw [fb_addI] <;> rw [nI_toInt (by omega), hv] <;> omega
theorem ofz {x : Int32} {z : Int} (hx : x.toInt = z) (h : 0 ≤ z) : x = nI z.toNat := by
  have := fb_rng x
  apply Int32.toInt_inj.mp
  rw [nI_toInt (by omega), hx]
  omega
theorem X_blur (hn : 1000 ≤ n) {sl ss sc : Nat → Int32} {w : Int32} (hw : okW w) {t : Nat} (hW : fX4_windAt n sl ss sc (nI t) = some w) (h : Rld P G X Y Z RX RH xs ys hs rx rh p g) {a b : Nat} (ha : a < P) (hb : b < P) : fX1_blurFrom n sl ss sc xs ys hs rx rh g (nI a) (nI b) (nI t) = some (nI (blS X Y Z RX RH G w a b)) := by
  have hr := X_ridges (n := n) h ha hb G n 0 (by omega) (by have := h.2.1; omega)
  obtain ⟨h1, h2, h3, h4, h5, h6⟩ := h
  obtain ⟨xa, ya, za, e1, e2, e3⟩ := h5 a ha
  obtain ⟨xb, yb, zb, f1, f2, f3⟩ := h5 b hb
  have hd := rdg_le X Z RX RH a b G
  unfold fX1_blurFrom blS
  by_cases q : a = b
  · subst q
    rw [if_pos rfl, if_pos rfl]
    rfl
  · rw [if_neg (by rw [nI_eq (by omega) (by omega)]; exact q), if_neg q]
    simp only [ar_nI (show a < 10 by omega) (by decide : 10 < 2147483648), ar_nI (show b < 10 by omega) (by decide : 10 < 2147483648), nm, e1, e2, f1, f2]
    rw [absd (by omega) (by omega), absd (by omega) (by omega), nI_add, hW, bd1_some]
    have hR : fX1_blurOfRidges n xs hs rx rh g (nI a) (nI b) = some (nI (rdg X Z RX RH a b G)) := by
      unfold fX1_blurOfRidges
      simp only [ar_nI (show a < 10 by omega) (by decide : 10 < 2147483648), ar_nI (show b < 10 by omega) (by decide : 10 < 2147483648), nm, e1, f1]
      have m1 : (if nI (X b) < nI (X a) then nI (X b) else nI (X a)) = nI (min (X a) (X b)) := by
        by_cases c : X b < X a
        · rw [if_pos (nI_lt c (by omega))]; congr 1; omega
        · rw [if_neg (nI_nlt (by omega) (by omega))]; congr 1; omega
      have m2 : (if nI (X a) < nI (X b) then nI (X b) else nI (X a)) = nI (max (X a) (X b)) := by
        by_cases c : X a < X b
        · rw [if_pos (nI_lt c (by omega))]; congr 1; omega
        · rw [if_neg (nI_nlt (by omega) (by omega))]; congr 1; omega
      rw [m1, m2]
      exact hr
    have key : ∀ (s : Int32), s.toInt = drf X w a b → fX1_blurFrom_p82 n xs hs rx rh g (nI a) (nI b) (nI (dst X Y a b)) s = some (nI (((dst X Y a b / 20 + rdg X Z RX RH a b G : Nat) : Int) + drf X w a b).toNat) := by
      intro s hs
      have dr := drf_in (X := X) hw a b
      unfold fX1_blurFrom_p82
      have du : dst X Y a b < 400 := by unfold dst; omega
      have dv : dst X Y a b / 20 ≤ 20 := by omega
      rw [hR, bd1_some, nm, show (20 : Int32) = nI 20 from rfl, pk_div (by omega) (by decide) (by decide), nI_add]
      have hv := hold0 (u := dst X Y a b / 20 + rdg X Z RX RH a b G) (by omega) hs dr.1 dr.2
      by_cases c : 0 < nI (dst X Y a b / 20 + rdg X Z RX RH a b G) + s
      · rw [if_pos c]
        rw [fa_lt, Int32.toInt_zero, hv] at c
        congr 1
        exact ofz hv (by omega)
      · rw [if_neg c]
        rw [fa_lt, Int32.toInt_zero, hv] at c
        rw [Int.toNat_of_nonpos (by omega)]
        rfl
    have hdst : X a - X b + (X b - X a) + (Y a - Y b + (Y b - Y a)) = dst X Y a b := rfl
    rw [hdst]
    by_cases c : w = 9
    · rw [if_pos c]
      exact key 2 (by unfold drf; rw [if_pos c]; decide)
    · rw [if_neg c, J_signum (by omega) (by omega), bd1_some]
      refine key _ ?_
      unfold drf
      rw [if_neg c]
      have hw2 : -2 ≤ w.toInt ∧ w.toInt ≤ 2 := hw.resolve_left c
      by_cases c1 : X a < X b
      · rw [if_pos c1, if_pos c1, fb_mulI] <;> rw [show (-1 : Int32).toInt = -1 from by decide] <;> omega
      · rw [if_neg c1, if_neg c1]
        by_cases c2 : X a = X b
        · rw [if_pos c2, if_neg (by omega), Int32.zero_mul]
          rfl
        · rw [if_neg c2, if_pos (by omega), Int32.one_mul]
theorem M_ridges (h : Rld P G X Y Z RX RH xs ys hs rx rh p g) {sl ss sc : Nat → Int32} {a b : Nat} (ha : a < P) (hb : b < P) (x3 : Int32) (u : Nat) (hu : u < 1000) : ∀ (d k r : Nat), r + d = G → d < k → fX9_blurOf_p112 n xs hs g rx rh sl ss sc (nI a) (nI b) x3 (nI (min (X a) (X b))) (nI (max (X a) (X b))) k (nI (u + rdg X Z RX RH a b r)) (nI r) = fX9_blurOf_p199 n xs sl ss sc (nI a) (nI b) x3 (nI (u + rdg X Z RX RH a b G)) := by
  obtain ⟨h1, h2, rfl, rfl, h5, h6⟩ := h
  intro d
  induction d with
  | zero =>
    intro k r hr hk
    obtain ⟨k, rfl⟩ : ∃ q, k = q + 1 := ⟨k - 1, by omega⟩
    rw [fX9_blurOf_p112, if_pos (nI_le (by omega) (by omega)), show r = G from by omega]
  | succ d ih =>
    intro k r hr hk
    obtain ⟨k, rfl⟩ : ∃ q, k = q + 1 := ⟨k - 1, by omega⟩
    obtain ⟨q1, q2, q3, q4⟩ := h6 r (by omega)
    obtain ⟨xa, ya, za, e1, e2, e3⟩ := h5 a ha
    obtain ⟨xb, yb, zb, f1, f2, f3⟩ := h5 b hb
    have hd := rdg_le X Z RX RH a b r
    have hi := ih k (r + 1) (by omega) (by omega)
    rw [rdg] at hi
    rw [fX9_blurOf_p112, if_neg (nI_ge (by omega) (by omega)), ar_nI (by omega) (by decide), q3]
    by_cases c1 : RX r ≤ min (X a) (X b)
    · rw [if_pos (nI_le c1 (by omega)), nI_1]
      rw [if_neg (by omega)] at hi
      exact hi
    · rw [if_neg (nI_ge (by omega) (by omega)), ar_nI (by omega) (by decide), q3]
      by_cases c2 : max (X a) (X b) < RX r
      · rw [if_pos (nI_lt c2 (by omega)), nI_1]
        rw [if_neg (by omega)] at hi
        exact hi
      · rw [if_neg (nI_nlt (by omega) (by omega)), ar_nI (by omega) (by decide), q4, ar_nI (by omega) (by decide), e3]
        rw [if_pos (by omega)] at hi
        by_cases c3 : Z a < RH r
        · rw [if_pos c3] at hi
          rw [if_neg (nI_ge c3 (by omega)), fX9_blurOf_p168, ar_nI (by omega) (by decide), q4, ar_nI (by omega) (by decide), f3]
          by_cases c4 : Z b < RH r
          · rw [if_pos c4] at hi
            rw [if_neg (nI_ge c4 (by omega)), nm, i1nI, nI_add, nI_add, nI_add, Nat.add_assoc]
            exact hi
          · rw [if_neg c4] at hi
            rw [if_pos (nI_le (by omega) (by omega)), nm, i1nI, i0nI, nI_add, nI_add, nI_add, Nat.add_assoc]
            exact hi
        · rw [if_neg c3] at hi
          rw [if_pos (nI_le (by omega) (by omega)), fX9_blurOf_p168, ar_nI (by omega) (by decide), q4, ar_nI (by omega) (by decide), f3]
          by_cases c4 : Z b < RH r
          · rw [if_pos c4] at hi
            rw [if_neg (nI_ge c4 (by omega)), nm, i1nI, i0nI, nI_add, nI_add, nI_add, Nat.add_assoc]
            exact hi
          · rw [if_neg c4] at hi
            rw [if_pos (nI_le (by omega) (by omega)), nm, i1nI, i0nI, nI_add, nI_add, nI_add, Nat.add_assoc]
            exact hi
theorem if0 {x : Int32} {z : Int} (hx : x.toInt = z) : (if 0 ≤ x then some x else some (0 : Int32)) = some (nI z.toNat) := by
  by_cases c : 0 ≤ x
  · rw [if_pos c]
    rw [le0_iff, hx] at c
    congr 1
    exact ofz hx c
  · rw [if_neg c]
    rw [le0_iff, hx] at c
    rw [Int.toNat_of_nonpos (by omega)]
    rfl
theorem M_blur (hn : 1000 ≤ n) {sl ss sc : Nat → Int32} {w : Int32} (hw : okW w) {t : Nat} (hW : fX9_windOf n sl ss sc (nI t) = some w) (h : Rld P G X Y Z RX RH xs ys hs rx rh p g) {a b : Nat} (ha : a < P) (hb : b < P) : fX9_blurOf n xs ys hs g rx rh sl ss sc (nI a) (nI b) (nI t) = some (nI (blS X Y Z RX RH G w a b)) := by
  have hr : ∀ u, u < 1000 → _ := fun u hu => M_ridges (n := n) (sl := sl) (ss := ss) (sc := sc) h ha hb (nI t) u hu G n 0 (by omega) (by have := h.2.1; omega)
  obtain ⟨h1, h2, h3, h4, h5, h6⟩ := h
  obtain ⟨xa, ya, za, e1, e2, e3⟩ := h5 a ha
  obtain ⟨xb, yb, zb, f1, f2, f3⟩ := h5 b hb
  have hd := rdg_le X Z RX RH a b G
  have dr := drf_in (X := X) hw a b
  have du : dst X Y a b < 400 := by unfold dst; omega
  have dv : dst X Y a b / 20 ≤ 20 := by omega
  unfold fX9_blurOf blS
  by_cases q : a = b
  · subst q
    rw [if_pos rfl, if_pos rfl]
    rfl
  · rw [if_neg (by rw [nI_eq (by omega) (by omega)]; exact q), if_neg q]
    simp only [ar_nI (show a < 10 by omega) (by decide : 10 < 2147483648), ar_nI (show b < 10 by omega) (by decide : 10 < 2147483648), nm, e1, e2, f1, f2, M_plain (n := n) (show X a < 1000 by omega) (show X b < 1000 by omega), M_plain (n := n) (show Y a < 1000 by omega) (show Y b < 1000 by omega), bd1_some]
    rw [nI_add, show (20 : Int32) = nI 20 from rfl, pk_div (by omega) (by decide) (by decide)]
    have hdst : X a - X b + (X b - X a) + (Y a - Y b + (Y b - Y a)) = dst X Y a b := rfl
    rw [hdst]
    have fin : fX9_blurOf_p199 n xs sl ss sc (nI a) (nI b) (nI t) (nI (dst X Y a b / 20 + rdg X Z RX RH a b G)) = some (nI (((dst X Y a b / 20 + rdg X Z RX RH a b G : Nat) : Int) + drf X w a b).toNat) := by
      unfold fX9_blurOf_p199
      rw [hW, bd1_some]
      by_cases c : w = 9
      · rw [if_pos c]
        exact if0 (hold0 (by omega) (by unfold drf; rw [if_pos c]; decide) (by omega) (by omega))
      · rw [if_neg c]
        simp only [ar_nI (show a < 10 by omega) (by decide : 10 < 2147483648), ar_nI (show b < 10 by omega) (by decide : 10 < 2147483648), nm, e1, f1]
        have hw2 : -2 ≤ w.toInt ∧ w.toInt ≤ 2 := hw.resolve_left c
        by_cases c2 : X a = X b
        · rw [if_pos (by rw [c2])]
          have e0 : drf X w a b = 0 := by unfold drf; rw [if_neg c, if_neg (by omega), if_neg (by omega)]
          rw [e0]
          exact if0 (by rw [nI_toInt (by omega)]; omega)
        · rw [if_neg (by rw [nI_eq (by omega) (by omega)]; exact c2)]
          by_cases c1 : X a < X b
          · rw [if_neg (nI_ge c1 (by omega))]
            refine if0 (hold0 (by omega) ?_ (by omega) (by omega))
            unfold drf
            rw [if_neg c, if_pos c1, fb_negI (by omega)]
          · rw [if_pos (nI_le (by omega) (by omega))]
            refine if0 (hold0 (by omega) ?_ (by omega) (by omega))
            unfold drf
            rw [if_neg c, if_neg c1, if_pos (by omega)]
    have hr2 := hr (dst X Y a b / 20) (by omega)
    rw [fin] at hr2
    have p75 : ∀ s0 : Int32, s0 = nI (min (X a) (X b)) → fX9_blurOf_p75 n xs hs g rx rh sl ss sc (nI a) (nI b) (nI t) (nI (dst X Y a b / 20)) s0 = some (nI (((dst X Y a b / 20 + rdg X Z RX RH a b G : Nat) : Int) + drf X w a b).toNat) := by
      intro s0 e0
      unfold fX9_blurOf_p75
      simp only [ar_nI (show a < 10 by omega) (by decide : 10 < 2147483648), ar_nI (show b < 10 by omega) (by decide : 10 < 2147483648), e1, f1]
      by_cases c : X b ≤ X a
      · rw [if_pos (nI_le c (by omega)), e0]
        have hr3 := hr2
        rw [show nI (max (X a) (X b)) = nI (X a) from by congr 1; omega] at hr3
        exact hr3
      · rw [if_neg (nI_ge (by omega) (by omega)), e0, show nI (X b) = nI (max (X a) (X b)) from by congr 1; omega]
        exact hr2
    by_cases c : X b ≤ X a
    · rw [if_pos (nI_le c (by omega))]
      exact p75 _ (by congr 1; omega)
    · rw [if_neg (nI_ge (by omega) (by omega))]
      exact p75 _ (by congr 1; omega)
end BL

/-! way, put together -/
section WP
variable {n P G : Nat} {X Y Z RX RH : Nat → Nat} {xs ys hs rx rh mxs mys mhs mrx mrh sl ss sc ml ms mc : Nat → Int32} {p g mp mg : Int32} {wv : Nat → Int32}
theorem X_measure (hn : 1000 ≤ n) (hX : Rld P G X Y Z RX RH xs ys hs rx rh p g) {w : Int32} (hw : okW w) {t : Nat} (hW : fX4_windAt n sl ss sc (nI t) = some w) (bl : Nat → Int32) : ∃ bl', fX1_measureBlurs n sl ss sc xs ys hs rx rh bl p g (nI t) = some bl' ∧ okB P (blS X Y Z RX RH G w) bl' := by
  have hP : p = nI P := hX.2.2.1
  have hP10 : P ≤ 10 := hX.1
  have hG : G ≤ 6 := hX.2.1
  have h5 := hX.2.2.2.2.1
  have lt : ∀ a b, a < P → b < P → blS X Y Z RX RH G w a b < 100 := fun a b ha hb => blS_lt X Y Z RX RH hG hw ⟨(h5 a ha).1, (h5 a ha).2.1⟩ ⟨(h5 b hb).1, (h5 b hb).2.1⟩
  have outer : ∀ (d k a : Nat) (bl : Nat → Int32), a + d = P → d < k → (∀ u v, u < a → v < P → bl (u * 10 + v) = nI (blS X Y Z RX RH G w u v)) → ∃ bl', fX1_measureBlurs_p2 n sl ss sc xs ys hs rx rh p g (nI t) k bl (nI a) = some bl' ∧ okB P (blS X Y Z RX RH G w) bl' := by
    intro d
    induction d with
    | zero =>
      intro k a bl ha hk h
      obtain ⟨k, rfl⟩ : ∃ q, k = q + 1 := ⟨k - 1, by omega⟩
      rw [fX1_measureBlurs_p2, hP, if_pos (nI_le (by omega) (by omega))]
      exact ⟨bl, rfl, fun u v hu hv => ⟨lt u v hu hv, h u v (by omega) hv⟩⟩
    | succ d ih =>
      intro k a bl ha hk h
      obtain ⟨k, rfl⟩ : ∃ q, k = q + 1 := ⟨k - 1, by omega⟩
      have aP : a < P := by omega
      rw [fX1_measureBlurs_p2, hP, if_neg (nI_ge (by omega) (by omega)), ← hP]
      have inner : ∀ (d2 k2 b : Nat) (bl : Nat → Int32), b + d2 = P → d2 < k2 → (∀ u v, (u < a ∧ v < P ∨ u = a ∧ v < b) → bl (u * 10 + v) = nI (blS X Y Z RX RH G w u v)) → ∃ bl', fX1_measureBlurs_p12 n sl ss sc xs ys hs rx rh p g (nI t) (nI a) (fX1_measureBlurs_p2 n sl ss sc xs ys hs rx rh p g (nI t) k) k2 bl (nI b) = some bl' ∧ okB P (blS X Y Z RX RH G w) bl' := by
        intro d2
        induction d2 with
        | zero =>
          intro k2 b bl hb hk2 h
          obtain ⟨k2, rfl⟩ : ∃ q, k2 = q + 1 := ⟨k2 - 1, by omega⟩
          rw [fX1_measureBlurs_p12, hP, if_pos (nI_le (by omega) (by omega)), ← hP, nI_1]
          exact ih k (a + 1) bl (by omega) (by omega) (fun u v hu hv => h u v (by omega))
        | succ d2 ih2 =>
          intro k2 b bl hb hk2 h
          obtain ⟨k2, rfl⟩ : ∃ q, k2 = q + 1 := ⟨k2 - 1, by omega⟩
          have bP : b < P := by omega
          rw [fX1_measureBlurs_p12, hP, if_neg (nI_ge (by omega) (by omega)), ← hP, X_blur hn hw hW hX aP bP, bd1_some, show (10 : Int32) = nI 10 from rfl, pk_mul, nI_add, aw_nI (by omega) (by decide), nI_1]
          refine ih2 k2 (b + 1) _ (by omega) (by omega) (fun u v q => ?_)
          by_cases z : u = a ∧ v = b
          · rw [z.1, z.2, pk_us]
          · rw [pk_un (by omega), h u v (by omega)]
      exact inner P n 0 bl (by omega) (by omega) (fun u v q => h u v (by omega) (by omega))
  exact outer P n 0 bl (by omega) (by omega) (fun u v hu => by omega)
theorem P_way (hn : 1000 ≤ n) (hX : Rld P G X Y Z RX RH xs ys hs rx rh p g) (hM : Rld P G X Y Z RX RH mxs mys mhs mrx mrh mp mg) (hS : RS sl ss sc ml ms mc) (way bl st lf : Nat → Int32) (wb wl : Int32) (x1 x2 x3 x4 : Int32) :
    ∃ (r : Int32) (f1 f2 f3 : Nat → Int32) (i1 i2 : Int32) (lf' : Nat → Int32), fX8_way n sl ss sc xs ys hs rx rh way bl st p g wb wl x1 x2 x3 x4 = some (r, f1, f2, f3, i1, i2) ∧ fX9_way n mp mxs mys mhs mg mrx mrh ml ms mc lf x1 x2 x3 x4 = some (r, lf') := by
  obtain ⟨wv, hw⟩ := P_winds (n := n) hS
  have hP : p = nI P := hX.2.2.1
  have hP' : mp = nI P := hM.2.2.1
  have hP10 : P ≤ 10 := hX.1
  have hG : G ≤ 6 := hX.2.1
  have h5 := hX.2.2.2.2.1
  unfold fX8_way fX9_way
  rcases ixc x1 P with ⟨A, hA, rfl⟩ | h1
  · rw [hP, hP', fX1_isPlace_y hA (by omega), fX9_isPlace_y hA (by omega), bd1_some, bd1_some, if_neg i10, if_neg i10]
    rcases ixc x2 P with ⟨T, hT, rfl⟩ | h1
    · rw [fX1_isPlace_y hT (by omega), fX9_isPlace_y hT (by omega), bd1_some, bd1_some, if_neg i10, if_neg i10]
      by_cases AT : A = T
      · rw [if_pos (by rw [AT]), if_pos (by rw [AT])]
        exact ⟨_, _, _, _, _, _, _, rfl, rfl⟩
      · have nAT : ¬ nI A = nI T := by rw [nI_eq (by omega) (by omega)]; exact AT
        rw [if_neg nAT, if_neg nAT]
        rcases ixc x3 24 with ⟨t, ht, rfl⟩ | h1
        · obtain ⟨w1, w2, w3⟩ := hw t ht
          rw [fX8_isHour_y ht, M_23_y ht, bd1_some, bd1_some, if_neg i10, if_neg i10]
          have hbl : ∀ a v, a < P → v < P → blS X Y Z RX RH G (wv t) a v < 100 ∧ fX9_blurOf n mxs mys mhs mg mrx mrh ml ms mc (nI a) (nI v) (nI t) = some (nI (blS X Y Z RX RH G (wv t) a v)) := fun a v ha hv => ⟨blS_lt X Y Z RX RH hG w3 ⟨(h5 a ha).1, (h5 a ha).2.1⟩ ⟨(h5 v hv).1, (h5 v hv).2.1⟩, M_blur hn w3 w2 hM ha hv⟩
          -- what both do when asked rightly
          have run : (x4 = 0 ∨ x4 = 1 ∨ ∃ j : Nat, j < 2147483638 ∧ x4 = nI (10 + j)) → ∃ (r : Int32) (f1 f2 f3 : Nat → Int32) (i1 i2 : Int32) (lf' : Nat → Int32), fX8_way_p56 n sl ss sc xs ys hs rx rh way bl st (nI P) g wb wl (nI A) (nI T) (nI t) x4 = some (r, f1, f2, f3, i1, i2) ∧ (bd1 (fX9_findLeft n (nI P) mxs mys mhs mg mrx mrh ml ms mc lf (nI T) (nI t) 0) (fun f12 => fX9_way_p63 n (nI P) mxs mys mhs mg mrx mrh ml ms mc (nI A) (nI T) (nI t) x4 n f12 0)) = some (r, lf') := by
            intro hx
            unfold fX8_way_p56 fX1_findWay
            obtain ⟨bl', m1, m2⟩ := X_measure hn hX w3 w1 bl
            rw [hP] at m1
            rw [m1, bd1_some]
            -- both stand at BLUR b, counted
            have found : ∀ (k k' b : Nat) (st lf : Nat → Int32) (D : Nat → Nat), b < 6 → 0 < k' → (∀ v, v < P → D v ≤ 100 ∧ st v = sv (D v)) → (∀ v, v < P → lf v = nI (D v)) → GD P T b (blS X Y Z RX RH G (wv t)) D → D A ≠ 100 → ∃ (r : Int32) (f1 f2 f3 : Nat → Int32) (i1 i2 : Int32) (lf' : Nat → Int32),
                bd6 (ar (nI A) 10 st (fun v3 => (if v3 = (-1) then fX1_findWay_p8 n way bl' (nI P) wb wl (nI A) (nI T) k st (nI b + 1) else bd2 (fX1_walkWay n way bl' st (nI P) wl (nI A) (nI b)) (fun f5 v6 => some (1, f5, bl', st, nI b, v6))))) (fun v1 f2 f3 f4 v5 v6 => (if v1 = 0 then some ((-4), f2, f3, f4, v5, v6) else (if x4 = 0 then some (v5, f2, f3, f4, v5, v6) else (if x4 = 1 then some (v6, f2, f3, f4, v5, v6) else (if v6 ≤ (x4 - (10)) then some ((-4), f2, f3, f4, v5, v6) else ar (x4 - (10)) 10 f2 (fun v11 => some (v11, f2, f3, f4, v5, v6))))))) = some (r, f1, f2, f3, i1, i2) ∧ fX9_way_p63 n (nI P) mxs mys mhs mg mrx mrh ml ms mc (nI A) (nI T) (nI t) x4 k' lf (nI b) = some (r, lf') := by
              intro k k' b st lf D hb hk' e1 e2 e3 z
              obtain ⟨k', rfl⟩ : ∃ q, k' = q + 1 := ⟨k' - 1, by omega⟩
              obtain ⟨dA, sA⟩ := e1 A hA
              have dP : D A < P := by have := e3.2.2.1 A hA; omega
              obtain ⟨nx, hN⟩ := nx_ex e3
              obtain ⟨way', y1, y2⟩ := X_walk hP10 hn m2 hb e1 hN hA dP way wl
              have q100 : ¬ nI (D A) = 100 := by rw [show (100 : Int32) = nI 100 from rfl, nI_eq (by omega) (by omega)]; exact z
              rw [ar_nI (by omega) (by decide), sA, if_neg (fun q => z ((sv_m1 dA).mp q)), y1, bd2_some, bd6_some, if_neg i10, fX9_way_p63, ar_nI (by omega) (by decide), e2 A hA, if_neg q100]
              unfold fX9_way_p94
              rw [ar_nI (by omega) (by decide), e2 A hA, if_neg q100]
              rcases hx with rfl | rfl | ⟨j, hj, rfl⟩
              · rw [if_pos rfl, if_neg (by decide), if_pos rfl]
                exact ⟨_, _, _, _, _, _, _, rfl, rfl⟩
              · rw [if_neg (by decide), if_pos rfl, if_neg (by decide), if_neg (by decide), ar_nI (by omega) (by decide), e2 A hA, nI_1]
                exact ⟨_, _, _, _, _, _, _, rfl, rfl⟩
              · have s10 : nI (10 + j) - 10 = nI j := by rw [show (10 : Int32) = nI 10 from rfl, pk_sub (by omega), show 10 + j - 10 = j from by omega]
                have c0 : ¬ nI (10 + j) = 0 := by rw [i0nI, nI_eq (by omega) (by omega)]; omega
                have c1 : ¬ nI (10 + j) = 1 := by rw [i1nI, nI_eq (by omega) (by omega)]; omega
                rw [if_neg c0, if_neg c1, show (10 : Int32) = nI 10 from rfl, if_pos (nI_le (by omega) (by omega)), ar_nI (by omega) (by decide), e2 A hA, show nI 10 = (10 : Int32) from rfl, s10]
                by_cases y : j ≤ D A
                · rw [if_neg (nI_ge (by omega) (by omega)), ar_nI (by omega) (by decide), y2 j y, if_pos (nI_le y (by omega))]
                  have mw := M_walk hP10 hn hb hbl e2 (fun v hv => (e1 v hv).1) hN hA dP y s10 j n 0 (by omega) (by omega)
                  rw [show itr nx A 0 = A from rfl] at mw
                  rw [show (0 : Int32) = nI 0 from rfl, mw]
                  exact ⟨_, _, _, _, _, _, _, rfl, rfl⟩
                · rw [if_pos (nI_le (by omega) (by omega)), if_neg (nI_ge (by omega) (by omega))]
                  exact ⟨_, _, _, _, _, _, _, rfl, rfl⟩
            have lp : ∀ (d k k' b : Nat) (st lf : Nat → Int32) (D : Nat → Nat), b + d = 5 → d < k → d < k' → (∀ v, v < P → D v ≤ 100 ∧ st v = sv (D v)) → (∀ v, v < P → lf v = nI (D v)) → GD P T b (blS X Y Z RX RH G (wv t)) D → ∃ (r : Int32) (f1 f2 f3 : Nat → Int32) (i1 i2 : Int32) (lf' : Nat → Int32),
                bd6 (ar (nI A) 10 st (fun v3 => (if v3 = (-1) then fX1_findWay_p8 n way bl' (nI P) wb wl (nI A) (nI T) k st (nI b + 1) else bd2 (fX1_walkWay n way bl' st (nI P) wl (nI A) (nI b)) (fun f5 v6 => some (1, f5, bl', st, nI b, v6))))) (fun v1 f2 f3 f4 v5 v6 => (if v1 = 0 then some ((-4), f2, f3, f4, v5, v6) else (if x4 = 0 then some (v5, f2, f3, f4, v5, v6) else (if x4 = 1 then some (v6, f2, f3, f4, v5, v6) else (if v6 ≤ (x4 - (10)) then some ((-4), f2, f3, f4, v5, v6) else ar (x4 - (10)) 10 f2 (fun v11 => some (v11, f2, f3, f4, v5, v6))))))) = some (r, f1, f2, f3, i1, i2) ∧ fX9_way_p63 n (nI P) mxs mys mhs mg mrx mrh ml ms mc (nI A) (nI T) (nI t) x4 k' lf (nI b) = some (r, lf') := by
              intro d
              induction d with
              | zero =>
                intro k k' b st lf D hb hk hk' e1 e2 e3
                obtain ⟨k, rfl⟩ : ∃ q, k = q + 1 := ⟨k - 1, by omega⟩
                obtain ⟨k', rfl⟩ : ∃ q, k' = q + 1 := ⟨k' - 1, by omega⟩
                obtain ⟨dA, sA⟩ := e1 A hA
                by_cases z : D A = 100
                · rw [ar_nI (by omega) (by decide), sA, fX9_way_p63, ar_nI (by omega) (by decide), e2 A hA]
                  rw [if_pos ((sv_m1 dA).mpr z), fX1_findWay_p8, nI_1, show (5 : Int32) = nI 5 from rfl, if_pos (nI_lt (by omega) (by omega)), if_pos (by rw [z]; rfl), if_pos (nI_le (by omega) (by omega)), bd6_some, if_pos rfl]
                  unfold fX9_way_p94
                  rw [ar_nI (by omega) (by decide), e2 A hA, if_pos (by rw [z]; rfl)]
                  exact ⟨_, _, _, _, _, _, _, rfl, rfl⟩
                · exact found (k + 1) (k' + 1) b st lf D (by omega) (by omega) e1 e2 e3 z
              | succ d ih =>
                intro k k' b st lf D hb hk hk' e1 e2 e3
                by_cases z : D A = 100
                · obtain ⟨k, rfl⟩ : ∃ q, k = q + 1 := ⟨k - 1, by omega⟩
                  obtain ⟨k', rfl⟩ : ∃ q, k' = q + 1 := ⟨k' - 1, by omega⟩
                  obtain ⟨dA, sA⟩ := e1 A hA
                  obtain ⟨st', D', c1, c2, c3⟩ := X_countSteps hP10 hn m2 (show b + 1 < 6 by omega) hT st
                  obtain ⟨lf', c4, c5⟩ := M_findLeft hP10 hn (show b + 1 < 6 by omega) hbl (rfl : nI P = nI P) c3 lf
                  have hi := ih k k' (b + 1) st' lf' D' (by omega) (by omega) (by omega) c2 c5 c3
                  rw [ar_nI (by omega) (by decide), sA, if_pos ((sv_m1 dA).mpr z), fX1_findWay_p8, nI_1, show (5 : Int32) = nI 5 from rfl, if_neg (nI_nlt (by omega) (by omega)), c1, bd1_some]
                  have hm : fX9_way_p63 n (nI P) mxs mys mhs mg mrx mrh ml ms mc (nI A) (nI T) (nI t) x4 (k' + 1) lf (nI b) = fX9_way_p63 n (nI P) mxs mys mhs mg mrx mrh ml ms mc (nI A) (nI T) (nI t) x4 k' lf' (nI (b + 1)) := by
                    rw [fX9_way_p63, ar_nI (by omega) (by decide), e2 A hA, if_pos (by rw [z]; rfl), show (5 : Int32) = nI 5 from rfl, if_neg (nI_ge (by omega) (by omega)), nI_1, c4, bd1_some]
                  rw [hm]
                  exact hi
                · exact found k k' b st lf D (by omega) (by omega) e1 e2 e3 z
            obtain ⟨n', hn'⟩ : ∃ q, n = q + 1 := ⟨n - 1, by omega⟩
            obtain ⟨st', D', c1, c2, c3⟩ := X_countSteps hP10 hn m2 (show 0 < 6 by decide) hT st
            obtain ⟨lf', c4, c5⟩ := M_findLeft hP10 hn (show 0 < 6 by decide) hbl (rfl : nI P = nI P) c3 lf
            have hi := lp 5 n' n 0 st' lf' D' (by omega) (by omega) (by omega) c2 c5 c3
            have e8 : fX1_findWay_p8 n way bl' (nI P) wb wl (nI A) (nI T) n st 0 = ar (nI A) 10 st' (fun v3 => (if v3 = (-1) then fX1_findWay_p8 n way bl' (nI P) wb wl (nI A) (nI T) n' st' (nI 0 + 1) else bd2 (fX1_walkWay n way bl' st' (nI P) wl (nI A) (nI 0)) (fun f5 v6 => some (1, f5, bl', st', nI 0, v6)))) := by
              rw [show fX1_findWay_p8 n way bl' (nI P) wb wl (nI A) (nI T) n st 0 = fX1_findWay_p8 n way bl' (nI P) wb wl (nI A) (nI T) (n' + 1) st (nI 0) from by rw [← hn']; rfl, fX1_findWay_p8, if_neg (by decide), c1, bd1_some]
            rw [e8, show (fX9_findLeft n (nI P) mxs mys mhs mg mrx mrh ml ms mc lf (nI T) (nI t) 0) = some lf' from c4, bd1_some]
            exact hi
          by_cases y0 : x4 < 0
          · rw [if_pos y0, M_1_n (by rw [lt0_iff] at y0; unfold inR; omega), bd1_some, if_pos rfl, if_neg (by rw [fa_le, show (10 : Int32).toInt = 10 from rfl]; rw [lt0_iff] at y0; omega)]
            exact ⟨_, _, _, _, _, _, _, rfl, rfl⟩
          · rw [if_neg y0]
            rw [lt0_iff] at y0
            by_cases y1 : x4 ≤ 1
            · rw [if_pos y1]
              rw [fa_le, show (1 : Int32).toInt = 1 from rfl] at y1
              obtain ⟨m, hm, rfl⟩ := inR_nI (x := x4) (N := 2) ⟨by omega, by omega⟩
              rw [M_1_y hm, bd1_some, if_neg i10]
              have : m = 0 ∨ m = 1 := by omega
              rcases this with rfl | rfl
              · exact run (Or.inl rfl)
              · exact run (Or.inr (Or.inl rfl))
            · rw [if_neg y1]
              rw [fa_le, show (1 : Int32).toInt = 1 from rfl] at y1
              rw [M_1_n (by unfold inR; omega), bd1_some, if_pos rfl]
              by_cases y2 : (10 : Int32) ≤ x4
              · rw [if_pos y2, if_pos y2]
                rw [fa_le, show (10 : Int32).toInt = 10 from rfl] at y2
                obtain ⟨m, hm, rfl⟩ := inR_nI (x := x4) (N := 2147483648) ⟨by omega, by have := fb_rng x4; omega⟩
                rw [nI_toInt (by omega)] at y2
                exact run (Or.inr (Or.inr ⟨m - 10, by omega, by rw [show 10 + (m - 10) = m from by omega]⟩))
              · rw [if_neg y2, if_neg y2]
                exact ⟨_, _, _, _, _, _, _, rfl, rfl⟩
        · rw [fX8_isHour_n h1, M_23_n h1, bd1_some, bd1_some, if_pos rfl, if_pos rfl]
          exact ⟨_, _, _, _, _, _, _, rfl, rfl⟩
    · rw [fX1_isPlace_n (by omega) h1, fX9_isPlace_n (by omega) h1, bd1_some, bd1_some, if_pos rfl, if_pos rfl]
      exact ⟨_, _, _, _, _, _, _, rfl, rfl⟩
  · rw [hP, hP', fX1_isPlace_n (by omega) h1, fX9_isPlace_n (by omega) h1, bd1_some, bd1_some, if_pos rfl, if_pos rfl]
    exact ⟨_, _, _, _, _, _, _, rfl, rfl⟩
end WP

/-! the BOOK, put together; count -/
section BP
variable {n C P Q W G nl : Nat} {am tm fr ak wd ff lf : Nat → Nat} {bt bf ba bw bff bl : Nat → Int32} {bs mcs : Int32} {cd ch cf ca cw co cl : Nat → Int32}
variable {X Y Z RX RH : Nat → Nat} {xs ys hs rx rh mxs mys mhs mrx mrh sl ss sc ml ms mc : Nat → Int32} {p g mp mg : Int32} {wv : Nat → Int32}
variable {ln : Nat → Nat} {mm : Nat → Nat → Nat} {spelled alike near asks : Nat → Int32} {rows : Nat → Int64} {letters words askCount : Int32} {mletters wMany wLetters aWords : Nat → Int32} {mwords masks : Int32}
theorem H_ex (hn : 1000 ≤ n) (hL : Rld P G X Y Z RX RH xs ys hs rx rh p g) (hLM : Rld P G X Y Z RX RH mxs mys mhs mrx mrh mp mg) (hS : RS sl ss sc ml ms mc) (hX : okX W Q nl ln (mLf ln mm) am spelled rows alike near asks letters words askCount) (hM : okMT W Q nl ln mm am mletters mwords wMany wLetters masks aWords) (hB : RB C P Q W am tm fr ak wd ff lf bt bf ba bw bff bl bs mcs cd ch cf ca cw co cl) :
    ∃ wv, okWs n sl ss sc ml ms mc wv ∧ ∃ hd hm, hd = hdc X Y Z RX RH G wv tm fr ∧ HH n C P W fr ak wd ff lf hd hm ∧ hxP n C P hd hm sl ss sc xs ys hs rx rh g bt bf ba bw alike asks ∧ hoP n C P hd hm mletters mwords wMany wLetters aWords mxs mys mhs mg mrx mrh ml ms mc ch cf ca cw := by
  obtain ⟨wv, hw⟩ := P_winds (n := n) hS
  refine ⟨wv, hw, hdc X Y Z RX RH G wv tm fr, hmc am (mLf ln mm) W X Y Z RX RH G wv tm fr ak wd, rfl, ⟨hX.1, hB.1, hL.1, fun c hc => ?_, fun a c hc => hm_own hB hc⟩, fun a c ha hc => X_heardBy hn hL hw hX hB ha hc, fun a c ha hc s rs t rt => M_hasOne hn hLM hw hM hB ha hc s t rs rt⟩
  obtain ⟨a1, a2, a3, a4, a5, a6, a7, a8, a9, a10, a11⟩ := hB.2.2.2.1 c hc
  exact ⟨a4, a6, a7, a8, a9, a10, a11⟩
theorem P_has (hn : 1000 ≤ n) (hL : Rld P G X Y Z RX RH xs ys hs rx rh p g) (hLM : Rld P G X Y Z RX RH mxs mys mhs mrx mrh mp mg) (hS : RS sl ss sc ml ms mc) (hX : okX W Q nl ln (mLf ln mm) am spelled rows alike near asks letters words askCount) (hM : okMT W Q nl ln mm am mletters mwords wMany wLetters masks aWords) (hB : RB C P Q W am tm fr ak wd ff lf bt bf ba bw bff bl bs mcs cd ch cf ca cw co cl) (s t : Int32) (rs rt : Nat → Int32) (x1 x2 x3 x4 : Int32) :
    ∃ (r s' : Int32) (f : Nat → Int32) (t' : Int32) (h : Nat → Int32), fX8_has n sl ss sc xs ys hs rx rh p g bt bf ba bw bff bs alike asks x1 x2 x3 x4 = some r ∧ fX9_has n mletters mwords wMany wLetters aWords s rs t rt mp mxs mys mhs mg mrx mrh ml ms mc mcs cd ch cf ca cw co x1 x2 x3 x4 = some (r, s', f, t', h) := by
  obtain ⟨wv, hw, hd, hm, -, H, hx, ho⟩ := H_ex hn hL hLM hS hX hM hB
  have hP := hL.1
  have p1 : p = nI P := hL.2.2.1
  have p2 : mp = nI P := hLM.2.2.1
  have hB0 := hB
  obtain ⟨h1, h2, h3, h4, h5, h6, h7⟩ := hB
  unfold fX8_has fX9_has
  rcases ixc x1 P with ⟨a, ha, rfl⟩ | q
  · rw [p1, p2, fX1_isPlace_y ha (by omega), fX9_isPlace_y ha (by omega), bd1_some, bd1_some, if_neg i10, if_neg i10]
    rcases ixc x2 C with ⟨c, hc, rfl⟩ | q
    · rw [h2, h3, fX0_isCall_y hc (by omega), fX9_isCall_y hc (by omega), bd1_some, bd1_some, if_neg i10, if_neg i10, ← h2]
      by_cases q1 : inR x3 100 ∧ inR x4 24
      · obtain ⟨⟨d, hd', rfl⟩, ⟨e, he, rfl⟩⟩ := (⟨inR_nI q1.1, inR_nI q1.2⟩ : _ ∧ _)
        have l1 := (h4 c hc).2.2.2.2.2.1
        rw [fX8_isTime_y hd' he, fX9_isTime_y hd' he, bd1_some, bd1_some, if_neg i10, if_neg i10, X_isRepeat hB0 hc, bd1_some, ar_nI (by omega) (by decide), (h6 c hc).2.2.2.2.2.1]
        by_cases z : ff c = c
        · obtain ⟨u, u1, u2, u3⟩ := P_upTo hn hB0 hd' he
          obtain ⟨s', r, t', h, e4⟩ := M_hasAll hn hB0 H ho ha hc u1 s t rs rt
          rw [h3, ← h2] at u3
          rw [if_pos (show (if ff c = c then (0 : Int32) else 1) = 0 from if_pos z), if_pos (show (if ff c = c then (-4 : Int32) else nI (ff c)) = -4 from if_pos z), X_timeOf, bd1_some, u2, bd1_some, X_held hn hB0 H hx ha hc u1, bd1_some, u3, bd1_some, e4, bd5_some]
          exact ⟨_, _, _, _, _, rfl, rfl⟩
        · rw [if_neg (show ¬ (if ff c = c then (0 : Int32) else 1) = 0 from by rw [if_neg z]; decide), if_neg (show ¬ (if ff c = c then (-4 : Int32) else nI (ff c)) = -4 from fun y => z ((co_m4 (by omega)).mp y))]
          exact ⟨_, _, _, _, _, rfl, rfl⟩
      · rw [fX8_isTime_n q1, fX9_isTime_n q1, bd1_some, bd1_some, if_pos rfl, if_pos rfl]
        exact ⟨_, _, _, _, _, rfl, rfl⟩
    · rw [h2, h3, fX0_isCall_n (by omega) q, fX9_isCall_n (by omega) q, bd1_some, bd1_some, if_pos rfl, if_pos rfl]
      exact ⟨_, _, _, _, _, rfl, rfl⟩
  · rw [p1, p2, fX1_isPlace_n (by omega) q, fX9_isPlace_n (by omega) q, bd1_some, bd1_some, if_pos rfl, if_pos rfl]
    exact ⟨_, _, _, _, _, rfl, rfl⟩
theorem P_knows (hn : 1000 ≤ n) (hL : Rld P G X Y Z RX RH xs ys hs rx rh p g) (hLM : Rld P G X Y Z RX RH mxs mys mhs mrx mrh mp mg) (hS : RS sl ss sc ml ms mc) (hX : okX W Q nl ln (mLf ln mm) am spelled rows alike near asks letters words askCount) (hM : okMT W Q nl ln mm am mletters mwords wMany wLetters masks aWords) (hB : RB C P Q W am tm fr ak wd ff lf bt bf ba bw bff bl bs mcs cd ch cf ca cw co cl) (hel : Nat → Int32) (s t : Int32) (rs rt : Nat → Int32) (x1 x2 x3 x4 : Int32) :
    ∃ (r : Int32) (hel' : Nat → Int32) (s' : Int32) (f : Nat → Int32) (t' : Int32) (h : Nat → Int32), fX8_knows n sl ss sc xs ys hs rx rh p g bt bf ba bw bff bl hel bs alike asks askCount x1 x2 x3 x4 = some (r, hel') ∧ fX9_knows n mletters mwords wMany wLetters masks aWords s rs t rt mp mxs mys mhs mg mrx mrh ml ms mc mcs cd ch cf ca cw co cl x1 x2 x3 x4 = some (r, s', f, t', h) := by
  obtain ⟨wv, hw, hd, hm, -, H, hx, ho⟩ := H_ex hn hL hLM hS hX hM hB
  have hP := hL.1
  have hQ := hX.2.1
  have p1 : p = nI P := hL.2.2.1
  have p2 : mp = nI P := hLM.2.2.1
  have q1 : askCount = nI Q := hX.2.2.2.2.2.1
  have q2 : masks = nI Q := hM.2.2.2.1
  unfold fX8_knows fX9_knows
  rcases ixc x1 P with ⟨a, ha, rfl⟩ | q
  · rw [p1, p2, fX1_isPlace_y ha (by omega), fX9_isPlace_y ha (by omega), bd1_some, bd1_some, if_neg i10, if_neg i10]
    rcases ixc x2 Q with ⟨c, hc, rfl⟩ | q
    · rw [q1, q2, fX7_isAsk_y hc (by omega), fX9_isAsk_y hc (by omega), bd1_some, bd1_some, if_neg i10, if_neg i10]
      by_cases q3 : inR x3 100 ∧ inR x4 24
      · obtain ⟨⟨d, hd', rfl⟩, ⟨e, he, rfl⟩⟩ := (⟨inR_nI q3.1, inR_nI q3.2⟩ : _ ∧ _)
        obtain ⟨u, u1, u2, u3⟩ := P_upTo hn hB hd' he
        obtain ⟨m, hel', k1, k2, k3⟩ := X_knownTo hn hB H hQ hx ha hc u1 hel
        obtain ⟨m', s', r, t', h, l1, l2, l3⟩ := M_knowsBy hn hB H hQ ho ha hc u1 s t rs rt
        have mm' : m' = m := msk_ext l2 k2 (fun j _ => by
          have := (l3 j).trans (k3 j).symm
          cases y : m.testBit j
          · cases x : m'.testBit j
            · rfl
            · rw [y] at this
              exact absurd (this.mp x) (by decide)
          · exact this.mpr y)
        rw [fX8_isTime_y hd' he, fX9_isTime_y hd' he, bd1_some, bd1_some, if_neg i10, if_neg i10, X_timeOf, bd1_some, u2, bd1_some, k1, bd2_some, u3, bd1_some, l1, bd5_some, mm']
        exact ⟨_, _, _, _, _, _, rfl, rfl⟩
      · rw [fX8_isTime_n q3, fX9_isTime_n q3, bd1_some, bd1_some, if_pos rfl, if_pos rfl]
        exact ⟨_, _, _, _, _, _, rfl, rfl⟩
    · rw [q1, q2, fX7_isAsk_n (by omega) q, fX9_isAsk_n (by omega) q, bd1_some, bd1_some, if_pos rfl, if_pos rfl]
      exact ⟨_, _, _, _, _, _, rfl, rfl⟩
  · rw [p1, p2, fX1_isPlace_n (by omega) q, fX9_isPlace_n (by omega) q, bd1_some, bd1_some, if_pos rfl, if_pos rfl]
    exact ⟨_, _, _, _, _, _, rfl, rfl⟩
theorem P_since (hn : 1000 ≤ n) (hL : Rld P G X Y Z RX RH xs ys hs rx rh p g) (hLM : Rld P G X Y Z RX RH mxs mys mhs mrx mrh mp mg) (hS : RS sl ss sc ml ms mc) (hX : okX W Q nl ln (mLf ln mm) am spelled rows alike near asks letters words askCount) (hM : okMT W Q nl ln mm am mletters mwords wMany wLetters masks aWords) (hB : RB C P Q W am tm fr ak wd ff lf bt bf ba bw bff bl bs mcs cd ch cf ca cw co cl) (hel : Nat → Int32) (s t : Int32) (rs rt : Nat → Int32) (x1 x2 x3 : Int32) :
    ∃ (r : Int32) (hel' : Nat → Int32) (s' : Int32) (f : Nat → Int32) (t' : Int32) (h : Nat → Int32), fX8_since n sl ss sc xs ys hs rx rh p g bt bf ba bw bff bl hel bs alike asks words askCount x1 x2 x3 = some (r, hel') ∧ fX9_since n mletters mwords wMany wLetters masks aWords s rs t rt mp mxs mys mhs mg mrx mrh ml ms mc mcs ch cf ca cw co cl x1 x2 x3 = some (r, s', f, t', h) := by
  obtain ⟨wv, hw, hd, hm, -, H, hx, ho⟩ := H_ex hn hL hLM hS hX hM hB
  have hP := hL.1
  have hQ := hX.2.1
  have hW := hX.1
  have p1 : p = nI P := hL.2.2.1
  have p2 : mp = nI P := hLM.2.2.1
  have hC := hB.1
  have c1 : bs = nI C := hB.2.1
  have c2 : mcs = nI C := hB.2.2.1
  unfold fX8_since fX9_since
  rcases ixc x1 P with ⟨a, ha, rfl⟩ | q
  · rw [p1, p2, fX1_isPlace_y ha (by omega), fX9_isPlace_y ha (by omega), bd1_some, bd1_some, if_neg i10, if_neg i10]
    by_cases q3 : ∃ a w, a < Q ∧ w < W ∧ (am a).testBit w = true ∧ x2 = nI a ∧ x3 = nI w
    · obtain ⟨q, w, hq, hw', hqw, rfl, rfl⟩ := q3
      rw [X_fits_y hX hq hw' hqw, M_fits_y hM hq hw' hqw, bd1_some, bd1_some, if_neg i10, if_neg i10]
      have hsel : ∀ c, c < C → ((fun f => ak f = q ∧ wd f = w) (ff c) ↔ (fun f => ak f = q ∧ wd f = w) c) := fun c hc => by
        obtain ⟨-, -, -, -, e5, e6, -⟩ := H.bnd c hc
        simp only [e5, e6]
      have lp : ∀ (d k k' c : Nat) (hel : Nat → Int32) (s t : Int32) (rs rt : Nat → Int32), c + d = C → d < k → d < k' → heldI C c fr ff lf hd hm a (fun f => ak f = q ∧ wd f = w) hel → ¬ SX fr ak wd ff lf hd hm a q c w → ∃ (r : Int32) (hel' : Nat → Int32) (s' : Int32) (f : Nat → Int32) (t' : Int32) (h : Nat → Int32), fX0_firstKnown_p11 n sl ss sc xs ys hs rx rh g bt bf ba bw bff bl bs alike asks (nI a) (nI q) (nI w) k hel (nI c) = some (r, hel') ∧ fX9_since_p22 n mletters mwords wMany wLetters aWords mxs mys mhs mg mrx mrh ml ms mc mcs ch cf ca cw co cl (nI a) (nI q) (nI w) k' s rs t rt (nI c) = some (r, s', f, t', h) := by
        intro d
        induction d with
        | zero =>
          intro k k' c hel s t rs rt hc hk hk' i1 i2
          obtain ⟨k, rfl⟩ : ∃ q, k = q + 1 := ⟨k - 1, by omega⟩
          obtain ⟨k', rfl⟩ : ∃ q, k' = q + 1 := ⟨k' - 1, by omega⟩
          rw [fX0_firstKnown_p11, fX9_since_p22, c1, c2, if_pos (nI_le (by omega) (by omega)), if_pos (nI_le (by omega) (by omega))]
          exact ⟨_, _, _, _, _, _, rfl, rfl⟩
        | succ d ih =>
          intro k k' c hel s t rs rt hc hk hk' i1 i2
          obtain ⟨k, rfl⟩ : ∃ q, k = q + 1 := ⟨k - 1, by omega⟩
          obtain ⟨k', rfl⟩ : ∃ q, k' = q + 1 := ⟨k' - 1, by omega⟩
          have cC : c < C := by omega
          obtain ⟨e8, e9, e10, e11, -⟩ := hB.2.2.2.1 c cC
          obtain ⟨f1, f2, f3, f4, f5, f6⟩ := hB.2.2.2.2.1 c cC
          obtain ⟨m', s', r, t', h, l1, l2, l3⟩ := M_knowsBy hn hB H hQ ho ha hq (show c + 1 ≤ C by omega) s t rs rt
          have m31 := pow16 hW l2
          have iff : m'.testBit w = true ↔ (ak c = q ∧ wd c = w ∧ stl fr ff lf hd hm a c = true) := by
            rw [l3 w]
            constructor
            · rintro ⟨d, d1, d2, d3, d4⟩
              by_cases x : d = c
              · subst x; exact ⟨d2, d3, d4⟩
              · exact absurd ⟨d, by omega, d2, d3, d4⟩ i2
            · rintro ⟨d2, d3, d4⟩
              exact ⟨c, by omega, d2, d3, d4⟩
          have nx : ¬ m'.testBit w = true → ¬ SX fr ak wd ff lf hd hm a q (c + 1) w := fun z y => z ((l3 w).mpr y)
          have eM : fX9_since_p22 n mletters mwords wMany wLetters aWords mxs mys mhs mg mrx mrh ml ms mc mcs ch cf ca cw co cl (nI a) (nI q) (nI w) (k' + 1) s rs t rt (nI c) = if m'.testBit w = true then some (nI c, s', r, t', h) else fX9_since_p22 n mletters mwords wMany wLetters aWords mxs mys mhs mg mrx mrh ml ms mc mcs ch cf ca cw co cl (nI a) (nI q) (nI w) k' s' r t' h (nI (c + 1)) := by
            rw [fX9_since_p22, c2, if_neg (nI_ge (by omega) (by omega)), ← c2, nI_1, l1, bd5_some]
            by_cases y : m'.testBit w = true
            · rw [if_pos ((bitv1 (by omega) (by omega)).mpr y), if_pos y]
            · rw [if_neg (fun z => y ((bitv1 (by omega) (by omega)).mp z)), if_neg y]
          rw [eM, fX0_firstKnown_p11, c1, if_neg (nI_ge (by omega) (by omega)), ar_nI (by omega) (by decide), f3, ← c1]
          by_cases z : ak c = q
          · rw [if_pos (by rw [z]), ar_nI (by omega) (by decide), f4]
            by_cases y : wd c = w
            · obtain ⟨hel', s1, s2⟩ := X_settles hB H hx ha cC hsel ⟨z, y⟩ i1
              rw [if_pos (by rw [y]), s1, bd2_some]
              by_cases x : stl fr ff lf hd hm a c = true
              · rw [if_pos x, if_neg i10, if_pos (iff.mpr ⟨z, y, x⟩)]
                exact ⟨_, _, _, _, _, _, rfl, rfl⟩
              · rw [if_neg x, if_pos rfl, if_neg (fun v => x (iff.mp v).2.2), nI_1]
                exact ih k k' (c + 1) hel' s' t' r h (by omega) (by omega) (by omega) s2 (nx (fun v => x (iff.mp v).2.2))
            · rw [if_neg (by rw [nI_eq (by omega) (by omega)]; exact y), if_neg (fun v => y (iff.mp v).2.1), nI_1]
              exact ih k k' (c + 1) hel s' t' r h (by omega) (by omega) (by omega) (held_skip H cC hsel (fun v => y v.2) i1) (nx (fun v => y (iff.mp v).2.1))
          · rw [if_neg (by rw [nI_eq (by omega) (by omega)]; exact z), if_neg (fun v => z (iff.mp v).1), nI_1]
            exact ih k k' (c + 1) hel s' t' r h (by omega) (by omega) (by omega) (held_skip H cC hsel (fun v => z v.1) i1) (nx (fun v => z (iff.mp v).1))
      unfold fX0_firstKnown
      obtain ⟨f, g1, g2, -⟩ := J_fill_all (n := n) (N := 30) (-1) (by decide) (by omega) hel
      obtain ⟨r, hel', s', r', t', h, a1, a2⟩ := lp C n n 0 f s t rs rt (by omega) (by omega) (by omega) (fun f hf _ _ _ => g2 f (by omega)) (by rintro ⟨c, hc, -⟩; omega)
      rw [g1, bd1_some, show fX0_firstKnown_p11 n sl ss sc xs ys hs rx rh g bt bf ba bw bff bl bs alike asks (nI a) (nI q) (nI w) n f 0 = some (r, hel') from a1, bd2_some]
      exact ⟨_, _, _, _, _, _, rfl, a2⟩
    · rw [X_fits_n hX q3, M_fits_n hM q3, bd1_some, bd1_some, if_pos rfl, if_pos rfl]
      exact ⟨_, _, _, _, _, _, rfl, rfl⟩
  · rw [p1, p2, fX1_isPlace_n (by omega) q, fX9_isPlace_n (by omega) q, bd1_some, bd1_some, if_pos rfl, if_pos rfl]
    exact ⟨_, _, _, _, _, _, rfl, rfl⟩
theorem P_spread (hn : 1000 ≤ n) (hL : Rld P G X Y Z RX RH xs ys hs rx rh p g) (hLM : Rld P G X Y Z RX RH mxs mys mhs mrx mrh mp mg) (hS : RS sl ss sc ml ms mc) (hX : okX W Q nl ln (mLf ln mm) am spelled rows alike near asks letters words askCount) (hM : okMT W Q nl ln mm am mletters mwords wMany wLetters masks aWords) (hB : RB C P Q W am tm fr ak wd ff lf bt bf ba bw bff bl bs mcs cd ch cf ca cw co cl) (hel : Nat → Int32) (s t : Int32) (rs rt : Nat → Int32) (x1 x2 x3 x4 x5 : Int32) :
    ∃ (r : Int32) (hel' : Nat → Int32) (s' : Int32) (f : Nat → Int32) (t' : Int32) (h : Nat → Int32), fX8_spread n sl ss sc xs ys hs rx rh p g bt bf ba bw bff bl hel bs alike asks words askCount x1 x2 x3 x4 x5 = some (r, hel') ∧ fX9_spread n mletters mwords wMany wLetters masks aWords s rs t rt mp mxs mys mhs mg mrx mrh ml ms mc mcs cd ch cf ca cw co cl x1 x2 x3 x4 x5 = some (r, s', f, t', h) := by
  obtain ⟨wv, hw, hd, hm, -, H, hx, ho⟩ := H_ex hn hL hLM hS hX hM hB
  have hP := hL.1
  have hQ := hX.2.1
  have hW := hX.1
  have p1 : p = nI P := hL.2.2.1
  have p2 : mp = nI P := hLM.2.2.1
  unfold fX8_spread fX9_spread
  by_cases q3 : ∃ a w, a < Q ∧ w < W ∧ (am a).testBit w = true ∧ x1 = nI a ∧ x2 = nI w
  · obtain ⟨q, w, hq, hw', hqw, rfl, rfl⟩ := q3
    rw [X_fits_y hX hq hw' hqw, M_fits_y hM hq hw' hqw, bd1_some, bd1_some, if_neg i10, if_neg i10]
    by_cases q4 : inR x3 100 ∧ inR x4 24
    · obtain ⟨⟨d, hd', rfl⟩, ⟨e, he, rfl⟩⟩ := (⟨inR_nI q4.1, inR_nI q4.2⟩ : _ ∧ _)
      rw [fX8_isTime_y hd' he, fX9_isTime_y hd' he, bd1_some, bd1_some, if_neg i10, if_neg i10]
      obtain ⟨u, u1, u2, u3⟩ := P_upTo hn hB hd' he
      have lp : ∀ (d2 k k' a m : Nat) (hel : Nat → Int32) (s t : Int32) (rs rt : Nat → Int32), a + d2 = P → d2 < k → d2 < k' → m < 2 ^ 10 → ∃ (r : Int32) (hel' : Nat → Int32) (s' : Int32) (f : Nat → Int32) (t' : Int32) (h : Nat → Int32), fX8_spread_p55 n sl ss sc xs ys hs rx rh p g bt bf ba bw bff bl alike asks (nI q) (nI w) x5 (nI u) k hel (nI m) (nI a) = some (r, hel') ∧ fX9_spread_p37 n mletters mwords wMany wLetters aWords mp mxs mys mhs mg mrx mrh ml ms mc mcs cd ch cf ca cw co cl (nI q) (nI w) (nI d) (nI e) x5 k' s rs t rt (nI m) (nI a) = some (r, s', f, t', h) := by
        intro d2
        induction d2 with
        | zero =>
          intro k k' a m hel s t rs rt ha hk hk' hm1
          obtain ⟨k, rfl⟩ : ∃ q, k = q + 1 := ⟨k - 1, by omega⟩
          obtain ⟨k', rfl⟩ : ∃ q, k' = q + 1 := ⟨k' - 1, by omega⟩
          rw [fX8_spread_p55, fX9_spread_p37, p1, p2, if_pos (nI_le (by omega) (by omega)), if_pos (nI_le (by omega) (by omega))]
          by_cases z : x5 = 0
          · rw [if_pos z, if_pos z, J_bitCount (by omega), M_bits hn (by omega), bd1_some, bd1_some]
            exact ⟨_, _, _, _, _, _, rfl, rfl⟩
          · rw [if_neg z, if_neg z]
            exact ⟨_, _, _, _, _, _, rfl, rfl⟩
        | succ d2 ih =>
          intro k k' a m hel s t rs rt ha hk hk' hm1
          obtain ⟨k, rfl⟩ : ∃ q, k = q + 1 := ⟨k - 1, by omega⟩
          obtain ⟨k', rfl⟩ : ∃ q, k' = q + 1 := ⟨k' - 1, by omega⟩
          have aP : a < P := by omega
          obtain ⟨m1, hel', k1, k2, k3⟩ := X_knownTo hn hB H hQ hx aP hq u1 hel
          obtain ⟨m', s', r, t', h, l1, l2, l3⟩ := M_knowsBy hn hB H hQ ho aP hq u1 s t rs rt
          have b1 := pow16 hW k2
          have b2 := pow16 hW l2
          have iff : m1.testBit w = true ↔ m'.testBit w = true := (k3 w).trans (l3 w).symm
          rw [fX8_spread_p55, fX9_spread_p37, p1, p2, if_neg (nI_ge (by omega) (by omega)), if_neg (nI_ge (by omega) (by omega)), k1, bd2_some, X_isIn (by omega) (by omega), bd1_some, u3, bd1_some, l1, bd5_some, ← p1, nI_1]
          have orb : nI m ||| ((1 : Int32) <<< (nI a &&& 31)) = nI (m ||| 2 ^ a) := or_bit2 (by omega)
          have lt : m ||| 2 ^ a < 2 ^ 10 := Nat.or_lt_two_pow hm1 (Nat.pow_lt_pow_right (by decide) (by omega))
          by_cases y : m1.testBit w = true
          · rw [if_neg (show ¬ (if m1.testBit w = true then (1 : Int32) else 0) = 0 from by rw [if_pos y]; decide), if_pos ((bitv1 (by omega) (by omega)).mpr (iff.mp y)), orb, nm, nm]
            have hi := ih k k' (a + 1) (m ||| 2 ^ a) hel' s' t' r h (by omega) (by omega) (by omega) lt
            rw [p2, ← p1] at hi
            exact hi
          · rw [if_pos (show (if m1.testBit w = true then (1 : Int32) else 0) = 0 from if_neg y), if_neg (fun z => y (iff.mpr ((bitv1 (by omega) (by omega)).mp z))), show nI m ||| (0 : Int32) = nI m from by rw [i0nI, fa_or, Nat.or_zero], nm]
            have hi := ih k k' (a + 1) m hel' s' t' r h (by omega) (by omega) (by omega) hm1
            rw [p2, ← p1] at hi
            exact hi
      by_cases y0 : x5 < 0
      · rw [if_pos y0, M_1_n (by rw [lt0_iff] at y0; unfold inR; omega), bd1_some, if_pos rfl]
        exact ⟨_, _, _, _, _, _, rfl, rfl⟩
      · rw [if_neg y0]
        rw [lt0_iff] at y0
        by_cases y1 : x5 ≤ 1
        · rw [if_pos y1]
          rw [fa_le, show (1 : Int32).toInt = 1 from rfl] at y1
          obtain ⟨m, hm2, e5⟩ := inR_nI (x := x5) (N := 2) ⟨by omega, by omega⟩
          rw [show fX9_in n x5.toInt64 (0 : Int64) (1 : Int64) = some 1 from by rw [e5]; exact M_1_y hm2, bd1_some, if_neg i10, X_timeOf, bd1_some, u2, bd1_some]
          exact lp P n n 0 0 hel s t rs rt (by omega) (by omega) (by omega) (by decide)
        · rw [if_neg y1]
          rw [fa_le, show (1 : Int32).toInt = 1 from rfl] at y1
          rw [M_1_n (by unfold inR; omega), bd1_some, if_pos rfl]
          exact ⟨_, _, _, _, _, _, rfl, rfl⟩
    · rw [fX8_isTime_n q4, fX9_isTime_n q4, bd1_some, bd1_some, if_pos rfl, if_pos rfl]
      exact ⟨_, _, _, _, _, _, rfl, rfl⟩
  · rw [X_fits_n hX q3, M_fits_n hM q3, bd1_some, bd1_some, if_pos rfl, if_pos rfl]
    exact ⟨_, _, _, _, _, _, rfl, rfl⟩
end BP

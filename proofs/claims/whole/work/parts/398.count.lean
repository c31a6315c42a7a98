/-! callOf, count -/
section CT
variable {n C P Q W G nl : Nat} {am tm fr ak wd ff lf : Nat → Nat} {bt bf ba bw bff bl : Nat → Int32} {bs mcs : Int32} {cd ch cf ca cw co cl : Nat → Int32}
variable {X Y Z RX RH : Nat → Nat} {xs ys hs rx rh mxs mys mhs mrx mrh sl ss sc ml ms mc : Nat → Int32} {p g mp mg : Int32} {wv : Nat → Int32}
variable {ln : Nat → Nat} {mm : Nat → Nat → Nat} {spelled alike near asks : Nat → Int32} {rows : Nat → Int64} {letters words askCount : Int32} {mletters wMany wLetters aWords : Nat → Int32} {mwords masks : Int32}
theorem X_one {m : Nat} (hm : m < 65536) (h : Bool) : fX0_isOneWord n (if h = true then nI m else -1) = some (if (h && decide (ct m = 1)) = true then 1 else 0) := by
  unfold fX0_isOneWord
  have := ct_le m
  cases h with
  | false => rfl
  | true =>
    rw [if_pos rfl, if_neg (m1_nI (by omega)), J_bitCount hm, bd1_some, Bool.true_and]
    by_cases x : ct m = 1
    · rw [if_pos (by rw [x]; rfl), if_pos (by simp [x])]
    · rw [if_neg (by rw [i1nI, nI_eq (by omega) (by omega)]; exact x), if_neg (by simp [x])]
theorem P_callOf (hn : 1000 ≤ n) (hL : Rld P G X Y Z RX RH xs ys hs rx rh p g) (hLM : Rld P G X Y Z RX RH mxs mys mhs mrx mrh mp mg) (hS : RS sl ss sc ml ms mc) (hX : okX W Q nl ln (mLf ln mm) am spelled rows alike near asks letters words askCount) (hM : okMT W Q nl ln mm am mletters mwords wMany wLetters masks aWords) (hB : RB C P Q W am tm fr ak wd ff lf bt bf ba bw bff bl bs mcs cd ch cf ca cw co cl) (s t : Int32) (rs rt : Nat → Int32) (x1 x2 : Int32) :
    ∃ (r s' : Int32) (f : Nat → Int32) (t' : Int32) (h : Nat → Int32), fX8_callOf n sl ss sc xs ys hs rx rh p g bt bf ba bw bff bl bs alike asks x1 x2 = some r ∧ fX9_callOf n mletters mwords wMany wLetters aWords s rs t rt mp mxs mys mhs mg mrx mrh ml ms mc mcs cd ch cf ca cw co cl x1 x2 = some (r, s', f, t', h) := by
  obtain ⟨wv, hw, hd, hm, ehd, H, hx, ho⟩ := H_ex hn hL hLM hS hX hM hB
  have hP := hL.1
  have hW := hX.1
  have p1 : p = nI P := hL.2.2.1
  have p2 : mp = nI P := hLM.2.2.1
  have hB0 := hB
  obtain ⟨h1, h2, h3, h4, h5, h6, h7⟩ := hB
  unfold fX8_callOf fX9_callOf
  rcases ixc x1 C with ⟨c, hc, rfl⟩ | q
  · rw [h2, h3, fX0_isCall_y hc (by omega), fX9_isCall_y hc (by omega), bd1_some, bd1_some, if_neg i10, if_neg i10]
    obtain ⟨a1, a2, a3, a4, a5, a6, a7, a8, a9, a10, a11⟩ := h4 c hc
    obtain ⟨b1, b2, b3, b4, b5, b6⟩ := h5 c hc
    obtain ⟨c1, c2, c3, c4, c5, c6, c7⟩ := h6 c hc
    have l1 := (H.bnd (ff c) (by omega)).2.2.2.2.2.2
    have lp : ∀ (x2 : Int32) (d k a : Nat) (s t : Int32) (rs rt : Nat → Int32), a + d = P → d < k → ∃ s' f t' h, fX9_callOf_p30 n mletters mwords wMany wLetters aWords mp mxs mys mhs mg mrx mrh ml ms mc cd ch cf ca cw co cl (nI c) x2 k s rs t rt (nI (fb_ct (fun a => hd a c) a)) (nI (fb_ct (fun a => hd a c && decide (ct (hm a c) = 1)) a)) (nI a) = fX9_callOf_p95 n s' f t' h cd ch cf ca cw co cl (nI c) x2 (nI (fb_ct (fun a => hd a c) P)) (nI (fb_ct (fun a => hd a c && decide (ct (hm a c) = 1)) P)) := by
      intro x2 d
      induction d with
      | zero =>
        intro k a s t rs rt ha hk
        obtain ⟨k, rfl⟩ : ∃ q, k = q + 1 := ⟨k - 1, by omega⟩
        rw [fX9_callOf_p30, p2, if_pos (nI_le (by omega) (by omega)), show a = P from by omega]
        exact ⟨_, _, _, _, rfl⟩
      | succ d ih =>
        intro k a s t rs rt ha hk
        obtain ⟨k, rfl⟩ : ∃ q, k = q + 1 := ⟨k - 1, by omega⟩
        obtain ⟨s', f, t', h, e⟩ := ho a c (by omega) hc s rs t rt
        have hi := ih k (a + 1) s' t' f h (by omega) (by omega)
        rw [fb_ct_succ, fb_ct_succ] at hi
        have ml := pow16 hW (H.hml a c hc).1
        have cm := ct_le (hm a c)
        rw [fX9_callOf_p30, p2, if_neg (nI_ge (by omega) (by omega)), ← p2, e, bd5_some]
        unfold fX9_callOf_p61
        by_cases y : hd a c = true
        · rw [y] at hi
          rw [if_pos y, if_neg (m4_nI (by omega)), nI_1, nm, if_neg (m4_nI (by omega)), M_bits hn ml, bd1_some]
          rw [if_pos rfl, Bool.true_and] at hi
          by_cases z : ct (hm a c) = 1
          · rw [if_pos (by rw [z]; rfl), nI_1, nI_1]
            rw [if_pos (decide_eq_true z)] at hi
            exact hi
          · rw [if_neg (by rw [i1nI, nI_eq (by omega) (by omega)]; exact z), Int32.add_zero, nI_1]
            rw [if_neg (by simp [z]), Nat.add_zero] at hi
            exact hi
        · rw [if_neg y, if_pos rfl, Int32.add_zero, nm, if_pos rfl, Int32.add_zero, nm, nI_1]
          rw [if_neg y, if_neg (by simp [y]), Nat.add_zero, Nat.add_zero] at hi
          exact hi
    rcases ixc x2 9 with ⟨j, hj, rfl⟩ | q
    · rw [show fX9_in n (nI j).toInt64 (0 : Int64) (8 : Int64) = some 1 from by rw [show (0 : Int64) = lN 0 from rfl, show (8 : Int64) = lN 8 from rfl, M_in_y (by omega) (by decide)], bd1_some, if_neg i10]
      obtain ⟨s', f, t', h, e⟩ := lp (nI j) P n 0 s t rs rt (by omega) (by omega)
      rw [show fX9_callOf_p30 n mletters mwords wMany wLetters aWords mp mxs mys mhs mg mrx mrh ml ms mc cd ch cf ca cw co cl (nI c) (nI j) n s rs t rt 0 0 0 = _ from e]
      unfold fX9_callOf_p95
      have : j = 0 ∨ j = 1 ∨ j = 2 ∨ j = 3 ∨ j = 4 ∨ j = 5 ∨ j = 6 ∨ j = 7 ∨ j = 8 := by omega
      have ix : c < 30 := by omega
      rcases this with rfl | rfl | rfl | rfl | rfl | rfl | rfl | rfl | rfl
      · rw [if_pos (by decide), if_pos (by decide), ar_nI ix (by decide), ar_nI ix (by decide), b1, c1, div24 (by omega)]
        exact ⟨_, _, _, _, _, rfl, rfl⟩
      · rw [if_neg (by decide), if_pos (by decide), if_neg (by decide), if_pos (by decide), ar_nI ix (by decide), ar_nI ix (by decide), b1, c2, mod24 (by omega)]
        exact ⟨_, _, _, _, _, rfl, rfl⟩
      · rw [if_neg (by decide), if_neg (by decide), if_pos (by decide), if_neg (by decide), if_neg (by decide), if_pos (by decide), ar_nI ix (by decide), ar_nI ix (by decide), b2, c3]
        exact ⟨_, _, _, _, _, rfl, rfl⟩
      · rw [if_neg (by decide), if_neg (by decide), if_neg (by decide), if_pos (by decide), if_neg (by decide), if_neg (by decide), if_neg (by decide), if_pos (by decide), ar_nI ix (by decide), ar_nI ix (by decide), b3, c4]
        exact ⟨_, _, _, _, _, rfl, rfl⟩
      · rw [if_neg (by decide), if_neg (by decide), if_neg (by decide), if_neg (by decide), if_pos (by decide), if_neg (by decide), if_neg (by decide), if_neg (by decide), if_neg (by decide), if_pos (by decide), ar_nI ix (by decide), ar_nI ix (by decide), b4, c5]
        exact ⟨_, _, _, _, _, rfl, rfl⟩
      · rw [if_neg (by decide), if_neg (by decide), if_neg (by decide), if_neg (by decide), if_neg (by decide), if_pos (by decide), if_neg (by decide), if_neg (by decide), if_neg (by decide), if_neg (by decide), if_neg (by decide), if_pos (by decide), ar_nI ix (by decide), ar_nI ix (by decide), ar_nI ix (by decide), b5, c6]
        by_cases z : ff c = c
        · rw [if_pos (by rw [z]), if_pos z]
          exact ⟨_, _, _, _, _, rfl, rfl⟩
        · rw [if_neg (by rw [nI_eq (by omega) (by omega)]; exact z), if_neg z]
          exact ⟨_, _, _, _, _, rfl, rfl⟩
      · rw [if_neg (by decide), if_neg (by decide), if_neg (by decide), if_neg (by decide), if_neg (by decide), if_neg (by decide), if_pos (by decide), if_neg (by decide), if_neg (by decide), if_neg (by decide), if_neg (by decide), if_neg (by decide), if_neg (by decide), if_pos (by decide), X_isFalse hB0 hc, M_isFalse hB0 hc, bd1_some, bd1_some]
        by_cases z : nI (lf (ff c)) = 0
        · rw [if_pos z, if_pos z]
          exact ⟨_, _, _, _, _, rfl, rfl⟩
        · rw [if_neg z, if_neg z]
          exact ⟨_, _, _, _, _, rfl, rfl⟩
      · obtain ⟨w1, w2, w3⟩ := hw (tm c % 24) (by omega)
        rw [if_neg (by decide), if_neg (by decide), if_neg (by decide), if_neg (by decide), if_neg (by decide), if_neg (by decide), if_neg (by decide), if_pos (by decide), if_neg (by decide), if_neg (by decide), if_neg (by decide), if_neg (by decide), if_neg (by decide), if_neg (by decide), if_neg (by decide), if_pos (by decide), ar_nI ix (by decide), ar_nI ix (by decide), b2, b1, mod24 (by omega), X_hearers hn hL w3 w1 a2, bd1_some, J_bitCount (pow16 (show P ≤ 16 by omega) (mk_lt _ _)), bd1_some, ct_mk (by omega)]
        refine ⟨_, s', f, t', h, rfl, ?_⟩
        rw [ehd]
        rfl
      · rw [if_neg (by decide), if_neg (by decide), if_neg (by decide), if_neg (by decide), if_neg (by decide), if_neg (by decide), if_neg (by decide), if_neg (by decide), if_pos (by decide), if_neg (by decide), if_neg (by decide), if_neg (by decide), if_neg (by decide), if_neg (by decide), if_neg (by decide), if_neg (by decide), if_neg (by decide)]
        have sp : ∀ (d k a : Nat), a + d = P → d < k → fX0_sureHearers_p5 n sl ss sc xs ys hs rx rh p g bt bf ba bw alike asks (nI c) k (nI (fb_ct (fun a => hd a c && decide (ct (hm a c) = 1)) a)) (nI a) = some (nI (fb_ct (fun a => hd a c && decide (ct (hm a c) = 1)) P)) := by
          intro d
          induction d with
          | zero =>
            intro k a ha hk
            obtain ⟨k, rfl⟩ : ∃ q, k = q + 1 := ⟨k - 1, by omega⟩
            rw [fX0_sureHearers_p5, p1, if_pos (nI_le (by omega) (by omega)), show a = P from by omega]
          | succ d ih =>
            intro k a ha hk
            obtain ⟨k, rfl⟩ : ∃ q, k = q + 1 := ⟨k - 1, by omega⟩
            have hi := ih k (a + 1) (by omega) (by omega)
            rw [fb_ct_succ] at hi
            rw [fX0_sureHearers_p5, p1, if_neg (nI_ge (by omega) (by omega)), hx a c (by omega) hc, bd1_some, X_one (pow16 hW (H.hml a c hc).1), bd1_some, ← p1]
            by_cases y : (hd a c && decide (ct (hm a c) = 1)) = true
            · rw [if_pos y] at hi
              rw [if_neg (show ¬ (if (hd a c && decide (ct (hm a c) = 1)) = true then (1 : Int32) else 0) = 0 from by rw [if_pos y]; decide), nI_1, nI_1]
              exact hi
            · rw [if_neg y, Nat.add_zero] at hi
              rw [if_pos (show (if (hd a c && decide (ct (hm a c) = 1)) = true then (1 : Int32) else 0) = 0 from if_neg y), nI_1]
              exact hi
        unfold fX0_sureHearers
        have := sp P n 0 (by omega) (by omega)
        rw [p1] at this
        rw [p1, show fX0_sureHearers_p5 n sl ss sc xs ys hs rx rh (nI P) g bt bf ba bw alike asks (nI c) n 0 0 = _ from this, bd1_some]
        exact ⟨_, _, _, _, _, rfl, rfl⟩
    · have ne : ∀ j, j < 9 → ¬ x2 = nI j := fun j hj z => q (by rw [z]; exact nI_inR hj (by decide))
      have n0 : ¬ x2 = 0 := ne 0 (by decide)
      have n1 : ¬ x2 = 1 := ne 1 (by decide)
      have n2 : ¬ x2 = 2 := ne 2 (by decide)
      have n3 : ¬ x2 = 3 := ne 3 (by decide)
      have n4 : ¬ x2 = 4 := ne 4 (by decide)
      have n5 : ¬ x2 = 5 := ne 5 (by decide)
      have n6 : ¬ x2 = 6 := ne 6 (by decide)
      have n7 : ¬ x2 = 7 := ne 7 (by decide)
      have n8 : ¬ x2 = 8 := ne 8 (by decide)
      rw [if_neg n0, if_neg n1, if_neg n2, if_neg n3, if_neg n4, if_neg n5, if_neg n6, if_neg n7, if_neg n8, show (0 : Int64) = lN 0 from rfl, show (8 : Int64) = lN 8 from rfl, M_in_n (by decide) q, bd1_some, if_pos rfl]
      exact ⟨_, _, _, _, _, rfl, rfl⟩
  · rw [h2, h3, fX0_isCall_n (by omega) q, fX9_isCall_n (by omega) q, bd1_some, bd1_some, if_pos rfl, if_pos rfl]
    exact ⟨_, _, _, _, _, rfl, rfl⟩
theorem P_count {T Ch : Nat} {lm : Nat → Nat → Nat} {nlr mlr tpb mtp : Nat → Int32} {ns mcd tps mtd : Int32} (hn : 1000 ≤ n) (hL : Rld P G X Y Z RX RH xs ys hs rx rh p g) (hLM : Rld P G X Y Z RX RH mxs mys mhs mrx mrh mp mg) (hS : RS sl ss sc ml ms mc) (hX : okX W Q nl ln (mLf ln mm) am spelled rows alike near asks letters words askCount) (hM : okMT W Q nl ln mm am mletters mwords wMany wLetters masks aWords) (hB : RB C P Q W am tm fr ak wd ff lf bt bf ba bw bff bl bs mcs cd ch cf ca cw co cl) (hN : RN W Ch lm nlr mlr ns mcd) (hT : RT T tpb tps mtp mtd) (x1 : Int32) :
    ∃ (r : Int32), fX8_count n tps ss p g bff bl bs ns letters words askCount x1 = some r ∧ fX9_count n mletters mwords masks mtd mp mg ml ms mcs co cl mcd x1 = some r := by
  have hB0 := hB
  obtain ⟨h1, h2, h3, h4, h5, h6, h7⟩ := hB
  unfold fX8_count fX9_count
  have lp1 : ∀ (d k r : Nat), r + d = 26 → d < k → fX9_count_p4 n mletters mwords masks mtd mp mg ml ms mcs co cl mcd x1 k (nI (fb_ct (fun k => decide (mletters k ≠ -1)) r)) (nI r) = fX9_count_p39 n mwords masks mtd mp mg ml ms mcs co cl mcd x1 (nI nl) n 0 0 := by
    intro d
    induction d with
    | zero =>
      intro k r hr hk
      obtain ⟨k, rfl⟩ : ∃ q, k = q + 1 := ⟨k - 1, by omega⟩
      rw [fX9_count_p4, show r = 26 from by omega, if_pos (by decide), hM.2.2.2.2.2]
    | succ d ih =>
      intro k r hr hk
      obtain ⟨k, rfl⟩ : ∃ q, k = q + 1 := ⟨k - 1, by omega⟩
      have hi := ih k (r + 1) (by omega) (by omega)
      rw [fb_ct_succ] at hi
      rw [fX9_count_p4, show (26 : Int32) = nI 26 from rfl, if_neg (nI_ge (by omega) (by omega)), ar_nI (by omega) (by decide)]
      by_cases y : mletters r = -1
      · rw [if_pos y, Int32.add_zero, nm, nI_1]
        rw [if_neg (by simp [y]), Nat.add_zero] at hi
        exact hi
      · rw [if_neg y, nI_1, nm, nI_1]
        rw [if_pos (by simp [y])] at hi
        exact hi
  have lp2 : ∀ (d k c : Nat), c + d = C → d < k → fX9_count_p39 n mwords masks mtd mp mg ml ms mcs co cl mcd x1 (nI nl) k (nI (fb_ct (fun c => decide (lf (ff c) ≠ 0)) c)) (nI c) = fX9_count_p71 n mwords masks mtd mp mg ml ms mcs mcd x1 (nI nl) (nI (fb_ct (fun c => decide (lf (ff c) ≠ 0)) C)) ∧ fX0_falseOnes_p4 n bff bl bs k (nI (fb_ct (fun c => decide (lf (ff c) ≠ 0)) c)) (nI c) = some (nI (fb_ct (fun c => decide (lf (ff c) ≠ 0)) C)) := by
    intro d
    induction d with
    | zero =>
      intro k c hc hk
      obtain ⟨k, rfl⟩ : ∃ q, k = q + 1 := ⟨k - 1, by omega⟩
      rw [fX9_count_p39, fX0_falseOnes_p4, h2, h3, if_pos (nI_le (by omega) (by omega)), if_pos (nI_le (by omega) (by omega)), show c = C from by omega]
      exact ⟨rfl, rfl⟩
    | succ d ih =>
      intro k c hc hk
      obtain ⟨k, rfl⟩ : ∃ q, k = q + 1 := ⟨k - 1, by omega⟩
      have hi := ih k (c + 1) (by omega) (by omega)
      have l1 := (h4 c (by omega)).2.2.2.2.2.1
      have l2 := (h4 (ff c) (by omega)).2.2.2.2.2.2.2.2.2.2
      rw [fb_ct_succ] at hi
      have sX : fX0_falseOnes_p4 n bff bl bs (k + 1) (nI (fb_ct (fun c => decide (lf (ff c) ≠ 0)) c)) (nI c) = if lf (ff c) = 0 then fX0_falseOnes_p4 n bff bl bs k (nI (fb_ct (fun c => decide (lf (ff c) ≠ 0)) c)) (nI (c + 1)) else fX0_falseOnes_p4 n bff bl bs k (nI (fb_ct (fun c => decide (lf (ff c) ≠ 0)) c + 1)) (nI (c + 1)) := by
        rw [fX0_falseOnes_p4, h2, if_neg (nI_ge (by omega) (by omega)), X_isFalse hB0 (by omega), bd1_some, ← h2, nI_1, nI_1]
        by_cases y : lf (ff c) = 0
        · rw [if_pos y, if_pos (by rw [y]; rfl)]
        · rw [if_neg y, if_neg (by rw [i0nI, nI_eq (by omega) (by omega)]; exact y)]
      have sM : fX9_count_p39 n mwords masks mtd mp mg ml ms mcs co cl mcd x1 (nI nl) (k + 1) (nI (fb_ct (fun c => decide (lf (ff c) ≠ 0)) c)) (nI c) = if lf (ff c) = 0 then fX9_count_p39 n mwords masks mtd mp mg ml ms mcs co cl mcd x1 (nI nl) k (nI (fb_ct (fun c => decide (lf (ff c) ≠ 0)) c)) (nI (c + 1)) else fX9_count_p39 n mwords masks mtd mp mg ml ms mcs co cl mcd x1 (nI nl) k (nI (fb_ct (fun c => decide (lf (ff c) ≠ 0)) c + 1)) (nI (c + 1)) := by
        rw [fX9_count_p39, h3, if_neg (nI_ge (by omega) (by omega)), M_isFalse hB0 (by omega), bd1_some, ← h3, nI_1, nI_1, Int32.add_zero, nm, nm]
        by_cases y : lf (ff c) = 0
        · rw [if_pos y, if_pos (by rw [y]; rfl)]
        · rw [if_neg y, if_neg (by rw [i0nI, nI_eq (by omega) (by omega)]; exact y)]
      rw [sX, sM]
      by_cases y : lf (ff c) = 0
      · rw [if_neg (by simp [y]), Nat.add_zero] at hi
        rw [if_pos y, if_pos y]
        exact hi
      · rw [if_pos (by simp [y])] at hi
        rw [if_neg y, if_neg y]
        exact hi
  obtain ⟨e2, e3⟩ := lp2 C n 0 (by omega) (by omega)
  have e1 := lp1 26 n 0 (by omega) (by omega)
  rw [show fX9_count_p4 n mletters mwords masks mtd mp mg ml ms mcs co cl mcd x1 n 0 0 = _ from e1, show fX9_count_p39 n mwords masks mtd mp mg ml ms mcs co cl mcd x1 (nI nl) n 0 0 = _ from e2]
  unfold fX9_count_p71 fX0_falseOnes
  rw [show fX0_falseOnes_p4 n bff bl bs n 0 0 = _ from e3, bd1_some]
  rw [hX.2.2.2.1, hX.2.2.2.2.1, hX.2.2.2.2.2.1, hM.2.2.1, hM.2.2.2.1, hL.2.2.1, hLM.2.2.1, hL.2.2.2.1, hLM.2.2.2.1, h2, h3, hN.2.1, hN.2.2.1, hT.2.1, hT.2.2.1]
  have sh : ∃ r : Int32, (ar 0 4 ss fun v12 => if v12 = -1 then some (-4) else ar 0 4 ss fun v14 => some v14) = some r ∧ (ar 0 4 ml fun v11 => if v11 = -4 then some (-4) else ar 0 4 ms fun v13 => some v13) = some r := by
    rw [i0nI, ar_nI (by decide) (by decide), ar_nI (by decide) (by decide), ar_nI (by decide) (by decide), ar_nI (by decide) (by decide)]
    rcases hS 0 (by decide) with ⟨z1, z2⟩ | ⟨l, z, z1, z2, z3, z4, z5, z6, z7⟩
    · rw [z1, z2, if_pos rfl, if_pos rfl]
      exact ⟨_, rfl, rfl⟩
    · rw [z3, z6, z5, if_neg (m1_nI (by omega)), if_neg (m4_nI (by omega))]
      exact ⟨_, rfl, rfl⟩
  obtain ⟨r, r1, r2⟩ := sh
  rw [r1, r2]
  by_cases c0 : x1 = 0
  · rw [if_pos c0]; exact ⟨_, rfl, rfl⟩
  rw [if_neg c0]
  by_cases c1 : x1 = 1
  · rw [if_pos c1]; exact ⟨_, rfl, rfl⟩
  rw [if_neg c1]
  by_cases c2 : x1 = 2
  · rw [if_pos c2]; exact ⟨_, rfl, rfl⟩
  rw [if_neg c2]
  by_cases c3 : x1 = 3
  · rw [if_pos c3]; exact ⟨_, rfl, rfl⟩
  rw [if_neg c3]
  by_cases c4 : x1 = 4
  · rw [if_pos c4]; exact ⟨_, rfl, rfl⟩
  rw [if_neg c4]
  by_cases c5 : x1 = 5
  · rw [if_pos c5]; exact ⟨_, rfl, rfl⟩
  rw [if_neg c5]
  by_cases c6 : x1 = 6
  · rw [if_pos c6]; exact ⟨_, rfl, rfl⟩
  rw [if_neg c6]
  by_cases c7 : x1 = 7
  · rw [if_pos c7]; exact ⟨_, rfl, rfl⟩
  rw [if_neg c7]
  by_cases c8 : x1 = 8
  · rw [if_pos c8]; exact ⟨_, rfl, rfl⟩
  rw [if_neg c8]
  by_cases c9 : x1 = 9
  · rw [if_pos c9]; exact ⟨_, rfl, rfl⟩
  rw [if_neg c9]
  exact ⟨_, rfl, rfl⟩
end CT

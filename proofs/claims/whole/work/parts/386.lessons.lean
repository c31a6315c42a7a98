/-! what a CHILD CONFUSES; lessons -/
def cfB (lm : Nat → Nat → Nat) (mL : Nat → List Nat) (c v w : Nat) : Bool := decide (v ≠ w) && (!(lm c v).testBit w && dif1 (mL v) (mL w))
theorem dfc_sym (l l' : List Nat) (r : Nat) : dfc l l' r = dfc l' l r := by
  unfold dfc
  refine fb_ct_cong (fun k _ => ?_)
  by_cases q : l[k]? = l'[k]?
  · simp [q]
  · have q2 : ¬ l'[k]? = l[k]? := fun z => q z.symm
    simp [q, q2]
theorem dif1_sym (l l' : List Nat) : dif1 l l' = dif1 l' l := by
  unfold dif1
  rw [dfc_sym]
  by_cases q : l.length = l'.length
  · simp [q]
  · have q2 : ¬ l'.length = l.length := fun z => q z.symm
    simp [q, q2]
theorem dif1_irr (l : List Nat) : dif1 l l = false := by
  unfold dif1
  have : dfc l l 8 = 0 := by
    unfold dfc
    rw [fb_ct_zero]
    intro k _
    simp
  simp [this]
theorem dfc_len {l l' : List Nat} (e : l.length = l'.length) (h : l.length ≤ 8) : dfc l l' 8 = dfc l l' l.length := by
  unfold dfc
  have s := fb_ct_split (fun i => decide (l[i]? ≠ l'[i]?)) l.length (8 - l.length)
  rw [show l.length + (8 - l.length) = 8 from by omega] at s
  rw [s]
  have z : fb_ct (fun k => decide (l[l.length + k]? ≠ l'[l.length + k]?)) (8 - l.length) = 0 := by
    rw [fb_ct_zero]
    intro k _
    rw [List.getElem?_eq_none (by omega), List.getElem?_eq_none (by omega)]
    simp
  rw [z, Nat.add_zero]
theorem bt_nI {m i : Nat} (hi : i < 32) : bt (nI m) i = m.testBit i := by
  unfold bt
  show (BitVec.ofNat 32 m).getLsbD i = _
  rw [BitVec.getLsbD_ofNat]
  simp [hi]
theorem and_not {a b N : Nat} (hN : N ≤ 16) (ha : a < 2 ^ N) : nI a &&& (nI b ^^^ (-1)) = nI (mk (fun v => a.testBit v && !b.testBit v) N) := by
  apply b_ext
  intro i hi
  rw [b_and, b_xor, b_m1 i hi, bt_nI hi, bt_nI hi, bt_nI hi, mk_bit]
  by_cases q : i < N
  · simp [q]
  · have : a.testBit i = false := Nat.testBit_lt_two_pow (Nat.lt_of_lt_of_le ha (Nat.pow_le_pow_right (by decide) (by omega)))
    simp [q, this]
section LE
variable {n W Q nl Ch : Nat} {ln : Nat → Nat} {mm : Nat → Nat → Nat} {am : Nat → Nat} {spelled alike near asks : Nat → Int32} {rows : Nat → Int64} {letters words askCount : Int32} {mletters wMany wLetters aWords : Nat → Int32} {mwords masks : Int32} {lm : Nat → Nat → Nat} {nlr mlr : Nat → Int32} {ns mc : Int32}
theorem cfB_sym (hN : RN W Ch lm nlr mlr ns mc) {mL : Nat → List Nat} {c v w : Nat} (hc : c < Ch) (hv : v < 16) (hw : w < 16) : cfB lm mL c v w = cfB lm mL c w v := by
  unfold cfB
  obtain ⟨-, h⟩ := hN.2.2.2.1 c hc
  rw [dif1_sym, (h v hv).2.2.2.2.2 w hw]
  by_cases q : v = w
  · simp [q]
  · have q2 : ¬ w = v := fun z => q z.symm
    simp [q, q2]
theorem X_confusedWith (hX : okX W Q nl ln (mLf ln mm) am spelled rows alike near asks letters words askCount) (hN : RN W Ch lm nlr mlr ns mc) {c w : Nat} (hc : c < Ch) (hw : w < W) : fX2_confusedWith n nlr near (nI c) (nI w) = some (nI (mk (fun v => cfB lm (mLf ln mm) c v w) W)) := by
  have hW := hX.1
  have hC := hN.1
  obtain ⟨-, h⟩ := hN.2.2.2.1 c hc
  obtain ⟨a1, a2, a3, a4, a5, a6⟩ := h w (by omega)
  unfold fX2_confusedWith
  rw [ar_nI (by omega) (by decide), (hX.2.2.2.2.2.2.1 w hw).2.2.2.1, show (16 : Int32) = nI 16 from rfl, pk_mul, nI_add, ar_nI (by omega) (by decide), a2, and_not hW (mk_lt _ _)]
  congr 2
  refine mk_cong (fun v hv => ?_)
  rw [mk_bit]
  unfold cfB
  rw [a6 v (by omega)]
  by_cases q : v = w
  · subst q
    rw [dif1_irr]
    simp
  · simp [hv, q, Bool.and_comm]
/-- pairs among some words that a CHILD CONFUSES -/
def RC (lm : Nat → Nat → Nat) (mL : Nat → List Nat) (c g : Nat) : Nat → Nat → Bool := fun v w => g.testBit v && (g.testBit w && (decide (v < 16) && (decide (w < 16) && cfB lm mL c v w)))
theorem RC_sym (hN : RN W Ch lm nlr mlr ns mc) {mL : Nat → List Nat} {c g : Nat} (hc : c < Ch) (v w : Nat) : RC lm mL c g v w = RC lm mL c g w v := by
  unfold RC
  by_cases hv : v < 16
  · by_cases hw : w < 16
    · rw [cfB_sym hN hc hv hw]
      simp [hv, hw, Bool.and_left_comm]
    · simp [hv, hw]
  · simp [hv]
theorem RC_ends {mL : Nat → List Nat} {c g w : Nat} (hW : W ≤ 16) (hw : w < W) : fb_ct (fun v => RC lm mL c g v w && decide (v ≠ w)) W = if g.testBit w then fb_ct (fun v => g.testBit v && cfB lm mL c v w) W else 0 := by
  by_cases q : g.testBit w = true
  · rw [if_pos q]
    refine fb_ct_cong (fun v hv => ?_)
    unfold RC
    have h1 : v < 16 := by omega
    have h2 : w < 16 := by omega
    by_cases z : v = w
    · subst z
      unfold cfB
      simp
    · simp [q, h1, h2, z]
  · rw [if_neg q, fb_ct_zero]
    intro k hk
    unfold RC
    simp [q]
theorem X_confPairs (hn : 1000 ≤ n) (hX : okX W Q nl ln (mLf ln mm) am spelled rows alike near asks letters words askCount) (hN : RN W Ch lm nlr mlr ns mc) {c g : Nat} (hc : c < Ch) (hg : g < 2 ^ W) : fX2_confusedPairs n nlr near words (nI c) (nI g) = some (nI (prs (RC lm (mLf ln mm) c g) W)) := by
  have hW := hX.1
  have h16 := pow16 hW hg
  have e := hX.2.2.2.2.1
  unfold fX2_confusedPairs
  have bnd : ∀ r, r ≤ W → fb_sm (fun w => fb_ct (fun v => RC lm (mLf ln mm) c g v w && decide (v ≠ w)) W) r ≤ r * 16 := fun r hr => fb_sm_bound (fun k hk => Nat.le_trans (fb_ct_le _ _) hW)
  have h : ∀ (d k r : Nat), r + d = W → d < k → fX2_confusedPairs_p6 n nlr near words (nI c) (nI g) k (nI (fb_sm (fun w => fb_ct (fun v => RC lm (mLf ln mm) c g v w && decide (v ≠ w)) W) r)) (nI r) = some (nI (prs (RC lm (mLf ln mm) c g) W)) := by
    intro d
    induction d with
    | zero =>
      intro k r hr hk
      obtain ⟨k, rfl⟩ : ∃ q, k = q + 1 := ⟨k - 1, by omega⟩
      have hp := prs_le (RC lm (mLf ln mm) c g) W
      have : W * W ≤ 16 * 16 := Nat.mul_le_mul hW hW
      rw [fX2_confusedPairs_p6, e, if_pos (nI_le (by omega) (by omega)), show r = W from by omega, dbl (RC_sym hN hc), show (2 : Int32) = nI 2 from rfl, pk_div (by omega) (by decide) (by decide), Nat.mul_div_cancel_left _ (by decide)]
    | succ d ih =>
      intro k r hr hk
      obtain ⟨k, rfl⟩ : ∃ q, k = q + 1 := ⟨k - 1, by omega⟩
      have hi := ih k (r + 1) (by omega) (by omega)
      rw [fb_sm_succ, RC_ends hW (by omega)] at hi
      rw [fX2_confusedPairs_p6, e, if_neg (nI_ge (by omega) (by omega)), ← e, X_isIn (by omega) (by omega), bd1_some]
      by_cases q : g.testBit r = true
      · rw [if_pos q] at hi
        rw [if_pos q, if_neg i10, X_confusedWith hX hN hc (by omega), bd1_some, Int32.and_comm, fa_and, and_mk]
        have hlt : mk (fun v => g.testBit v && cfB lm (mLf ln mm) c v r) W < 65536 := pow16 hW (mk_lt _ _)
        rw [J_bitCount hlt, bd1_some, nm, ct_mk hW, nI_add, nI_1]
        exact hi
      · rw [if_neg q, Nat.add_zero] at hi
        rw [if_neg q, if_pos rfl, nI_1]
        exact hi
  exact h W n 0 (by omega) (by omega)
theorem M_confuse (hn : 1000 ≤ n) (hM : okMT W Q nl ln mm am mletters mwords wMany wLetters masks aWords) (hN : RN W Ch lm nlr mlr ns mc) {c v w : Nat} (hc : c < Ch) (hv : v < W) (hw : w < W) (s t : Int32) (rs rt : Nat → Int32) : ∃ s' f t' g, fX9_doesConfuse n mletters wMany wLetters s rs t rt mlr (nI c) (nI v) (nI w) = some (if cfB lm (mLf ln mm) c v w = true then 1 else 0, s', f, t', g) := by
  have hW := hM.1.1
  have hC := hN.1
  obtain ⟨-, h⟩ := hN.2.2.2.1 c hc
  obtain ⟨a1, a2, a3, a4, a5, a6⟩ := h v (by omega)
  have l1 := pow16 hW a1
  unfold fX9_doesConfuse
  by_cases q : v = w
  · subst q
    rw [if_pos rfl, if_neg (by unfold cfB; simp)]
    exact ⟨_, _, _, _, rfl⟩
  · rw [if_neg (by rw [nI_eq (by omega) (by omega)]; exact q), show (16 : Int32) = nI 16 from rfl, pk_mul, nI_add, Nat.mul_comm, ar_nI (by omega) (by decide), a3]
    by_cases y : (lm c v).testBit w = true
    · rw [if_pos ((bitv1 (by omega) (by omega)).mpr y), if_neg (by unfold cfB; simp [y])]
      exact ⟨_, _, _, _, rfl⟩
    · rw [if_neg (fun z => y ((bitv1 (by omega) (by omega)).mp z))]
      obtain ⟨f, f1, f2⟩ := M_rowOf hn (b := 0) (by decide) hM.1 hv rs
      obtain ⟨g, g1, g2⟩ := M_rowOf hn (b := 0) (by decide) hM.1 hw rt
      have o1 := okM_L hM.1 hv
      have o2 := okM_L hM.1 hw
      rw [rowS_0 o1] at f1 f2
      rw [rowS_0 o2] at g1 g2
      have f1' : fX9_rowOf n mletters wMany wLetters rs (nI v) 0 = _ := f1
      have g1' : fX9_rowOf n mletters wMany wLetters rt (nI w) 0 = _ := g1
      rw [f1', g1', bd2_some, bd2_some]
      have ecf : cfB lm (mLf ln mm) c v w = dif1 (spc (mm v) (ln v)) (spc (mm w) (ln w)) := by
        unfold cfB mLf
        simp [q, y]
      rw [ecf]
      generalize spc (mm v) (ln v) = l at *
      generalize spc (mm w) (ln w) = l' at *
      have b1 := o1.1
      have b2 := o2.1
      refine ⟨nI l.length, f, nI l'.length, g, ?_⟩
      by_cases e : l.length = l'.length
      · have key : ∀ (d k r : Nat), r + d = l.length → d < k → fX9_doesConfuse_p60 n (nI l.length) f (nI l'.length) g k (nI (dfc l l' r)) (nI r) = some (if dif1 l l' = true then 1 else 0, nI l.length, f, nI l'.length, g) := by
          intro d
          induction d with
          | zero =>
            intro k r hr hk
            obtain ⟨k, rfl⟩ : ∃ q, k = q + 1 := ⟨k - 1, by omega⟩
            have hc8 : dfc l l' l.length ≤ l.length := fb_ct_le _ _
            rw [fX9_doesConfuse_p60, show r = l.length from by omega, if_pos (nI_le (by omega) (by omega))]
            unfold dif1
            rw [dfc_len e b1]
            by_cases z : dfc l l' l.length = 1
            · rw [if_pos (by rw [z]; rfl), if_pos (by simp only [Bool.and_eq_true, decide_eq_true_eq]; exact ⟨e, z⟩)]
            · rw [if_neg (by rw [i1nI, nI_eq (by omega) (by decide)]; exact z), if_neg (by simp [z])]
          | succ d ih =>
            intro k r hr hk
            obtain ⟨k, rfl⟩ : ∃ q, k = q + 1 := ⟨k - 1, by omega⟩
            have hi := ih k (r + 1) (by omega) (by omega)
            unfold dfc at hi
            rw [fb_ct_succ] at hi
            have x1 := getD_le o1 r
            have x2 := getD_le o2 r
            have ge : (l[r]? = l'[r]?) ↔ l.getD r 0 = l'.getD r 0 := by
              rw [List.getD_eq_getElem?_getD, List.getD_eq_getElem?_getD, List.getElem?_eq_getElem (show r < l.length by omega), List.getElem?_eq_getElem (show r < l'.length by omega)]
              simp
            rw [fX9_doesConfuse_p60, if_neg (nI_ge (by omega) (by omega)), if_pos (by rw [e]), ar_nI (by omega) (by decide), ar_nI (by omega) (by decide), f2 r (by omega), g2 r (by omega)]
            by_cases z : l.getD r 0 = l'.getD r 0
            · rw [if_pos (by rw [z]), nm, i0nI, nI_add, nI_1]
              rw [if_neg (by simp [ge.mpr z])] at hi
              exact hi
            · rw [if_neg (by rw [nI_eq (by omega) (by omega)]; exact z), nm, nI_1, nI_1]
              rw [if_pos (by simp only [decide_eq_true_eq]; exact fun y => z (ge.mp y))] at hi
              exact hi
        exact key l.length n 0 (by omega) (by omega)
      · obtain ⟨n', hn'⟩ : ∃ q, n = q + 1 := ⟨n - 1, by omega⟩
        have e0 : fX9_doesConfuse_p60 n (nI l.length) f (nI l'.length) g (n' + 1) 0 0 = some (0, nI l.length, f, nI l'.length, g) := by
          rw [fX9_doesConfuse_p60, if_neg (show ¬ (0 : Int32) = 1 by decide), if_neg (show ¬ nI l.length = nI l'.length by rw [nI_eq (by omega) (by omega)]; exact e), ite_self]
        rw [show fX9_doesConfuse_p60 n (nI l.length) f (nI l'.length) g n 0 0 = fX9_doesConfuse_p60 n (nI l.length) f (nI l'.length) g (n' + 1) 0 0 from by rw [← hn'], e0, if_neg (by unfold dif1; simp [e])]
theorem P_lessons (hn : 1000 ≤ n) (hX : okX W Q nl ln (mLf ln mm) am spelled rows alike near asks letters words askCount) (hM : okMT W Q nl ln mm am mletters mwords wMany wLetters masks aWords) (hN : RN W Ch lm nlr mlr ns mc) (s t : Int32) (rs rt : Nat → Int32) (x1 x2 : Int32) :
    ∃ (r s' : Int32) (f : Nat → Int32) (t' : Int32) (g : Nat → Int32), fX8_lessons n nlr ns near asks words askCount x1 x2 = some r ∧ fX9_lessons n mletters mwords wMany wLetters masks aWords s rs t rt mc mlr x1 x2 = some (r, s', f, t', g) := by
  have hW := hX.1
  have hQ := hX.2.1
  have hC := hN.1
  have e3 : askCount = nI Q := hX.2.2.2.2.2.1
  have e4 : masks = nI Q := hM.2.2.2.1
  have em := hM.2.2.1
  unfold fX8_lessons fX9_lessons
  rw [hN.2.1, hN.2.2.1, e3, e4]
  rcases ixc x1 Ch with ⟨c, hc, rfl⟩ | q
  · rw [fX2_isChild_y hc (by omega), fX9_isChild_y hc (by omega), bd1_some, bd1_some, if_neg i10, if_neg i10]
    rcases ixc x2 Q with ⟨a, ha, rfl⟩ | q
    · obtain ⟨b1, b2⟩ := hX.2.2.2.2.2.2.2 a ha
      obtain ⟨-, b3⟩ := hM.2.2.2.2.1 a ha
      have h16 := pow16 hW b1
      rw [fX7_isAsk_y ha (by omega), fX9_isAsk_y ha (by omega), bd1_some, bd1_some, if_neg i10, if_neg i10, ar_nI (by omega) (by decide), b2, X_confPairs hn hX hN hc b1, bd1_some]
      have outer : ∀ (d k v : Nat) (s t : Int32) (rs rt : Nat → Int32), v + d = W → d < k → ∃ s' f t' g, fX9_lessons_p23 n mletters mwords wMany wLetters aWords mlr (nI c) (nI a) k s rs t rt (nI (prs (RC lm (mLf ln mm) c (am a)) v)) (nI v) = some (nI (prs (RC lm (mLf ln mm) c (am a)) W), s', f, t', g) := by
        intro d
        induction d with
        | zero =>
          intro k v s t rs rt hv hk
          obtain ⟨k, rfl⟩ : ∃ q, k = q + 1 := ⟨k - 1, by omega⟩
          rw [fX9_lessons_p23, em, if_pos (nI_le (by omega) (by omega)), show v = W from by omega]
          exact ⟨_, _, _, _, rfl⟩
        | succ d ih =>
          intro k v s t rs rt hv hk
          obtain ⟨k, rfl⟩ : ∃ q, k = q + 1 := ⟨k - 1, by omega⟩
          rw [fX9_lessons_p23, em, if_neg (nI_ge (by omega) (by omega)), ← em]
          have inner : ∀ (d2 k2 w : Nat) (s t : Int32) (rs rt : Nat → Int32), w + d2 = v → d2 < k2 → ∃ s' f t' g, fX9_lessons_p35 n mletters mwords wMany wLetters aWords mlr (nI c) (nI a) (nI v) (fX9_lessons_p23 n mletters mwords wMany wLetters aWords mlr (nI c) (nI a) k) k2 s rs t rt (nI (prs (RC lm (mLf ln mm) c (am a)) v + fb_ct (fun u => RC lm (mLf ln mm) c (am a) u v) w)) (nI w) = some (nI (prs (RC lm (mLf ln mm) c (am a)) W), s', f, t', g) := by
            intro d2
            induction d2 with
            | zero =>
              intro k2 w s t rs rt hw hk2
              obtain ⟨k2, rfl⟩ : ∃ q, k2 = q + 1 := ⟨k2 - 1, by omega⟩
              rw [fX9_lessons_p35, show w = v from by omega, if_pos (nI_le (by omega) (by omega)), nI_1]
              exact ih k (v + 1) s t rs rt (by omega) (by omega)
            | succ d2 ih2 =>
              intro k2 w s t rs rt hw hk2
              obtain ⟨k2, rfl⟩ : ∃ q, k2 = q + 1 := ⟨k2 - 1, by omega⟩
              have no : ∀ (s t : Int32) (rs rt : Nat → Int32), RC lm (mLf ln mm) c (am a) w v = false → ∃ s' f t' g, fX9_lessons_p35 n mletters mwords wMany wLetters aWords mlr (nI c) (nI a) (nI v) (fX9_lessons_p23 n mletters mwords wMany wLetters aWords mlr (nI c) (nI a) k) k2 s rs t rt (nI (prs (RC lm (mLf ln mm) c (am a)) v + fb_ct (fun u => RC lm (mLf ln mm) c (am a) u v) w) + 0) (nI w + 1) = some (nI (prs (RC lm (mLf ln mm) c (am a)) W), s', f, t', g) := by
                intro s t rs rt hz
                have hi := ih2 k2 (w + 1) s t rs rt (by omega) (by omega)
                rw [fb_ct_succ, hz, if_neg (by decide), Nat.add_zero] at hi
                rw [Int32.add_zero, nI_1]
                exact hi
              rw [fX9_lessons_p35, if_neg (nI_ge (by omega) (by omega)), ar_nI (by omega) (by decide), b3]
              by_cases q1 : (am a).testBit v = true
              · rw [if_pos ((bitv1 (by omega) (by omega)).mpr q1), ar_nI (by omega) (by decide), b3]
                by_cases q2 : (am a).testBit w = true
                · rw [if_pos ((bitv1 (by omega) (by omega)).mpr q2)]
                  obtain ⟨s', f, t', g, h⟩ := M_confuse hn hM hN hc (by omega : v < W) (by omega : w < W) s t rs rt
                  rw [h, bd5_some]
                  have hs := cfB_sym hN (mL := mLf ln mm) hc (show v < 16 by omega) (show w < 16 by omega)
                  by_cases q3 : cfB lm (mLf ln mm) c v w = true
                  · rw [if_pos q3, if_neg i10, nm, nI_1, nI_1]
                    have hi := ih2 k2 (w + 1) s' t' f g (by omega) (by omega)
                    have hz : RC lm (mLf ln mm) c (am a) w v = true := by
                      unfold RC
                      rw [← hs, q3]
                      have y1 : w < 16 := by omega
                      have y2 : v < 16 := by omega
                      simp [q1, q2, y1, y2]
                    rw [fb_ct_succ, hz, if_pos rfl] at hi
                    exact hi
                  · rw [if_neg q3, if_pos rfl, nm]
                    exact no _ _ _ _ (by unfold RC; rw [← hs]; simp [q3])
                · rw [if_neg (fun z => q2 ((bitv1 (by omega) (by omega)).mp z)), nm]
                  exact no _ _ _ _ (by unfold RC; simp [q2])
              · rw [if_neg (fun z => q1 ((bitv1 (by omega) (by omega)).mp z)), nm]
                exact no _ _ _ _ (by unfold RC; simp [q1])
          exact inner v n 0 s t rs rt (by omega) (by omega)
      obtain ⟨s', f, t', g, h⟩ := outer W n 0 s t rs rt (by omega) (by omega)
      exact ⟨_, s', f, t', g, rfl, h⟩
    · rw [fX7_isAsk_n (by omega) q, fX9_isAsk_n (by omega) q, bd1_some, bd1_some, if_pos rfl, if_pos rfl]
      exact ⟨_, _, _, _, _, rfl, rfl⟩
  · rw [fX2_isChild_n (by omega) q, fX9_isChild_n (by omega) q, bd1_some, bd1_some, if_pos rfl, if_pos rfl]
    exact ⟨_, _, _, _, _, rfl, rfl⟩
end LE

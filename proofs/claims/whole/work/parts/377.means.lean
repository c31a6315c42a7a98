/-! cut, means -/
section CM
variable {n W Q nl : Nat} {ln : Nat → Nat} {mm : Nat → Nat → Nat} {am : Nat → Nat} {spelled alike near asks : Nat → Int32} {rows : Nat → Int64} {letters words askCount : Int32} {mletters wMany wLetters aWords : Nat → Int32} {mwords masks : Int32}
theorem cut_core (hn : 1000 ≤ n) (hX : okX W Q nl ln (mLf ln mm) am spelled rows alike near asks letters words askCount) (hM : okMT W Q nl ln mm am mletters mwords wMany wLetters masks aWords) {g b j : Nat} (hg : g < 2 ^ W) (hb : b < 6) (hj : j < 3) (s t : Int32) (rs rt : Nat → Int32) : ∃ (r s' : Int32) (f : Nat → Int32) (t' : Int32) (h : Nat → Int32), fX8_cut_p62 n alike words (nI b) (nI j) (nI g) = some r ∧ fX9_cut_p69 n mletters mwords wMany wLetters (nI b) (nI j) (nI g) n s rs t rt 0 0 0 = some (r, s', f, t', h) := by
  have hW := hX.1
  obtain ⟨s', f, t', h, e⟩ := M_cutloop hn hM hg hb (nI j) W n 0 s t rs rt (by omega) (by omega)
  have e' : fX9_cut_p69 n mletters mwords wMany wLetters (nI b) (nI j) (nI g) n s rs t rt 0 0 0 = _ := e
  have hlt : mk (fs g (fun w => rowS (mLf ln mm w) b)) W < 65536 := pow16 hW (mk_lt _ _)
  rw [e']
  unfold fX8_cut_p62 fX9_cut_p209
  rw [X_cutOf hn hX hg hb, X_pairs hn hX hg hb, M_bits hn hlt]
  simp only [bd1_some, J_bitCount hlt]
  rcases (show j = 0 ∨ j = 1 ∨ j = 2 by omega) with rfl | rfl | rfl
  · exact ⟨_, _, _, _, _, rfl, rfl⟩
  · exact ⟨_, _, _, _, _, rfl, rfl⟩
  · exact ⟨_, _, _, _, _, rfl, rfl⟩
theorem allW (hW : W ≤ 16) : ((1 : Int32) <<< (nI W &&& 31)) - 1 = nI (2 ^ W - 1) := by
  have := Nat.two_pow_pos W
  rw [shl1 (by omega), i1nI, pk_sub (by omega)]
theorem P_cut (hn : 1000 ≤ n) (hX : okX W Q nl ln (mLf ln mm) am spelled rows alike near asks letters words askCount) (hM : okMT W Q nl ln mm am mletters mwords wMany wLetters masks aWords) (s t : Int32) (rs rt : Nat → Int32) (x1 x2 x3 : Int32) :
    ∃ (r s' : Int32) (f : Nat → Int32) (t' : Int32) (h : Nat → Int32), fX8_cut n alike asks words askCount x1 x2 x3 = some r ∧ fX9_cut n mletters mwords wMany wLetters masks aWords s rs t rt x1 x2 x3 = some (r, s', f, t', h) := by
  have hW := hX.1
  have hQ := hX.2.1
  have e1 : words = nI W := hX.2.2.2.2.1
  have e2 : mwords = nI W := hM.2.2.1
  have e3 : askCount = nI Q := hX.2.2.2.2.2.1
  have e4 : masks = nI Q := hM.2.2.2.1
  have bad : ∀ y : Int32, ¬ inR x3 3 → fX8_cut_p62 n alike words x2 x3 y = some (-1) := by
    intro y h3
    unfold fX8_cut_p62
    rw [if_neg (fun z => h3 (by rw [z]; exact nI_inR (j := 0) (by decide) (by decide))), if_neg (fun z => h3 (by rw [z]; exact nI_inR (j := 1) (by decide) (by decide))), if_neg (fun z => h3 (by rw [z]; exact nI_inR (j := 2) (by decide) (by decide)))]
  unfold fX8_cut fX9_cut
  by_cases c : x1 = -4
  · rw [if_pos c, if_pos c, if_neg i10]
    unfold fX8_cut_p29 fX9_cut_p14
    rcases ixc x2 6 with ⟨b, hb, rfl⟩ | h1
    · rw [fX8_isBlur_y hb, fX9_isBlur_y hb, bd1_some, bd1_some, if_neg i10, if_neg i10, if_neg i10]
      unfold fX7_allWords
      have aX : ((1 : Int32) <<< (words &&& 31)) - 1 = nI (2 ^ W - 1) := by rw [e1]; exact allW hW
      have aM : ((1 : Int32) <<< (mwords &&& 31)) - 1 = nI (2 ^ W - 1) := by rw [e2]; exact allW hW
      rw [bd1_some, if_pos c, nm, aX, aM]
      rcases ixc x3 3 with ⟨j, hj, rfl⟩ | h3
      · rw [M_2_y hj, bd1_some, if_neg i10]
        exact cut_core hn hX hM (by have := Nat.two_pow_pos W; omega) hb hj s t rs rt
      · rw [M_2_n h3, bd1_some, if_pos rfl, bad _ h3]
        exact ⟨_, _, _, _, _, rfl, rfl⟩
    · rw [fX8_isBlur_n h1, fX9_isBlur_n h1, bd1_some, bd1_some, if_pos rfl, if_pos rfl]
      exact ⟨_, _, _, _, _, rfl, rfl⟩
  · rw [if_neg c, if_neg c, if_pos rfl, e3, e4]
    rcases ixc x1 Q with ⟨a, ha, rfl⟩ | h1
    · rw [fX7_isAsk_y ha (by omega), fX9_isAsk_y ha (by omega), bd1_some, bd1_some, if_neg i10, if_neg i10]
      unfold fX8_cut_p29 fX9_cut_p14
      rcases ixc x2 6 with ⟨b, hb, rfl⟩ | h1
      · obtain ⟨b1, b2⟩ := hX.2.2.2.2.2.2.2 a ha
        obtain ⟨-, b3⟩ := hM.2.2.2.2.1 a ha
        rw [fX8_isBlur_y hb, fX9_isBlur_y hb, bd1_some, bd1_some, if_neg i10, if_neg i10, if_pos rfl, if_neg c, ar_nI (by omega) (by decide), ar_nI (by omega) (by decide), b2, b3]
        rcases ixc x3 3 with ⟨j, hj, rfl⟩ | h3
        · rw [M_2_y hj, bd1_some, if_neg i10]
          exact cut_core hn hX hM b1 hb hj s t rs rt
        · rw [M_2_n h3, bd1_some, if_pos rfl, bad _ h3]
          exact ⟨_, _, _, _, _, rfl, rfl⟩
      · rw [fX8_isBlur_n h1, fX9_isBlur_n h1, bd1_some, bd1_some, if_pos rfl, if_pos rfl]
        exact ⟨_, _, _, _, _, rfl, rfl⟩
    · rw [fX7_isAsk_n (by omega) h1, fX9_isAsk_n (by omega) h1, bd1_some, bd1_some, if_pos rfl, if_pos rfl]
      exact ⟨_, _, _, _, _, rfl, rfl⟩
theorem X_withRow (hn : 1000 ≤ n) {N : Nat} (hN : N ≤ 16) {rows : Nat → Int64} {mL : Nat → List Nat} {b : Nat} (hb : b < 6) (hr : ∀ w, w < N → okL (mL w) ∧ rows (b * 16 + w) = lN (pkl (rowS (mL w) b))) {l : List Nat} (hl : okL l) : fX7_withRow n rows (nI N) (nI b) (lN (pkl l)) = some (nI (mk (fun w => decide (rowS (mL w) b = l)) N)) := by
  unfold fX7_withRow
  have g : ∀ (d k r : Nat), r + d = N → d < k → fX7_withRow_p6 n rows (nI N) (nI b) (lN (pkl l)) k (nI (mk (fun w => decide (rowS (mL w) b = l)) r)) (nI r) = some (nI (mk (fun w => decide (rowS (mL w) b = l)) N)) := by
    intro d
    induction d with
    | zero =>
      intro k r hr hk
      obtain ⟨k, rfl⟩ : ∃ q, k = q + 1 := ⟨k - 1, by omega⟩
      rw [fX7_withRow_p6, if_pos (nI_le (by omega) (by omega)), show r = N from by omega]
    | succ d ih =>
      intro k r hr' hk
      obtain ⟨k, rfl⟩ : ∃ q, k = q + 1 := ⟨k - 1, by omega⟩
      obtain ⟨o1, o2⟩ := hr r (by omega)
      have hi := ih k (r + 1) (by omega) (by omega)
      have hrow : fX7_rowAt n rows (nI b) (nI r) = some (lN (pkl (rowS (mL r) b))) := by
        unfold fX7_rowAt
        rw [show (16 : Int32) = nI 16 from rfl, pk_mul, nI_add, ar_nI (by omega) (by decide), o2]
      rw [fX7_withRow_p6, if_neg (nI_ge (by omega) (by omega)), hrow, bd1_some]
      have e := pkl_eq (rowS_ok o1 b) hl
      by_cases q : rowS (mL r) b = l
      · rw [if_pos (by rw [lg0]; exact e.mpr q), nm, or_mk (by omega) (by simpa using q), nI_1]
        exact hi
      · rw [if_neg (by rw [lg0]; exact fun z => q (e.mp z)), nI_1]
        rw [mk_no (by simpa using q)] at hi
        exact hi
  exact g N n 0 (by omega) (by omega)
/-- a row is what the cells say -/
def mt (l : List Nat) (c : Nat) (cv : Nat → Int32) : Prop := l.length = c ∧ ∀ i, i < c → cv i = nI (l.getD i 0)
theorem mt_one {l l' : List Nat} {c : Nat} {cv : Nat → Int32} (h : okL l) (h' : okL l') (m : mt l c cv) (m' : mt l' c cv) : l = l' := by
  refine List.ext_getElem (by rw [m.1, m'.1]) (fun i h1 h2 => ?_)
  have a := m.2 i (by rw [← m.1]; exact h1)
  have b := m'.2 i (by rw [← m.1]; exact h1)
  have a1 := getD_le h i
  have a2 := getD_le h' i
  rw [a, nI_eq (by omega) (by omega), List.getD_eq_getElem?_getD, List.getD_eq_getElem?_getD, List.getElem?_eq_getElem h1, List.getElem?_eq_getElem h2] at b
  exact b
theorem isMark_y {m : Nat} (h : m ≤ 20) : fX3_isMark n (nI m) = some 1 := by
  unfold fX3_isMark
  rw [if_neg (nI_pos (by omega)), show (20 : Int32) = nI 20 from rfl, if_neg (nI_nlt (by omega) (by omega))]
theorem isMark_n {x : Int32} (h : ¬ inR x 21) : fX3_isMark n x = some 0 := by
  unfold fX3_isMark
  by_cases q : x < 0
  · rw [if_pos q]
  · rw [if_neg q, show (20 : Int32) = nI 20 from rfl, if_pos]
    rw [nIlt_iff (by decide)]
    rw [lt0_iff] at q
    unfold inR at h
    omega
noncomputable def mtB (l : List Nat) (c : Nat) (cv : Nat → Int32) : Bool := @decide (mt l c cv) (Classical.propDecidable _)
theorem mtB_t {l : List Nat} {c : Nat} {cv : Nat → Int32} : mtB l c cv = true ↔ mt l c cv := by
  unfold mtB
  exact @decide_eq_true_iff _ (Classical.propDecidable _)
theorem mtB_f {l : List Nat} {c : Nat} {cv : Nat → Int32} (h : ¬ mt l c cv) : mtB l c cv = false := by
  cases e : mtB l c cv with
  | false => rfl
  | true => exact absurd (mtB_t.mp e) h
theorem X_means (hn : 1000 ≤ n) (hX : okX W Q nl ln (mLf ln mm) am spelled rows alike near asks letters words askCount) {a b k f0 c : Nat} (ha : a < Q) (hb : b < 6) (hc : c ≤ 8) (hk : k < 4) {sc : Nat → Int32} {x5 : Int32} (h5 : 0 < c → x5 = nI f0 ∧ f0 + c ≤ 60) : ∀ (d q i : Nat) (acc : List Nat), i + d = c → d < q → okL acc → acc.length = i → (∀ j, j < i → sc (60 * k + (f0 + j)) = nI (acc.getD j 0)) → fX8_means_p80 n sc rows asks words (nI a) (nI b) (nI k) x5 (nI c) q (lN (pkl acc)) (nI i) = some (nI (mk (fun w => (am a).testBit w && mtB (rowS (mLf ln mm w) b) c (fun i => sc (60 * k + (f0 + i)))) W)) := by
  have hW := hX.1
  have hQ := hX.2.1
  obtain ⟨b1, b2⟩ := hX.2.2.2.2.2.2.2 a ha
  have e1 : words = nI W := hX.2.2.2.2.1
  intro d
  induction d with
  | zero =>
    intro q i acc hi hq hacc hlen hcv
    obtain ⟨q, rfl⟩ : ∃ p, q = p + 1 := ⟨q - 1, by omega⟩
    rw [fX8_means_p80, if_pos (nI_le (by omega) (by omega))]
    unfold fX7_meantBy
    rw [ar_nI (by omega) (by decide), b2, e1, X_withRow hn hW hb (fun w hw => ⟨(hX.2.2.2.2.2.2.1 w hw).1, ((hX.2.2.2.2.2.2.1 w hw).2.2.2.2 b hb).1⟩) hacc, bd1_some, bd1_some, fa_and, and_mk]
    congr 2
    refine mk_cong (fun w hw => ?_)
    congr 1
    have hm : mt acc c (fun i => sc (60 * k + (f0 + i))) := ⟨by omega, fun j hj => hcv j (by omega)⟩
    by_cases z : rowS (mLf ln mm w) b = acc
    · rw [decide_eq_true z, eq_comm, mtB_t, z]
      exact hm
    · rw [decide_eq_false z, eq_comm]
      exact mtB_f (fun y => z (mt_one (rowS_ok (hX.2.2.2.2.2.2.1 w hw).1 b) hacc y hm))
  | succ d ih =>
    intro q i acc hi hq hacc hlen hcv
    obtain ⟨q, rfl⟩ : ∃ p, q = p + 1 := ⟨q - 1, by omega⟩
    obtain ⟨e5, e6⟩ := h5 (by omega)
    rw [fX8_means_p80, if_neg (nI_ge (by omega) (by omega)), e5]
    have hcell : fX4_cellAt n sc (nI k) (nI f0 + nI i) = some (sc (60 * k + (f0 + i))) := by
      unfold fX4_cellAt
      rw [show (60 : Int32) = nI 60 from rfl, pk_mul, nI_add, nI_add, Nat.mul_comm, ar_nI (by omega) (by decide)]
    rw [hcell, bd1_some]
    rcases ixc (sc (60 * k + (f0 + i))) 21 with ⟨m, hm, em⟩ | h1
    · rw [em, isMark_y (by omega), bd1_some, if_neg i10, ← hlen, X_with hacc (by omega) (by omega), bd1_some, nI_1, hlen]
      have hL : okL (acc ++ [m]) := ⟨by rw [List.length_append]; simp; omega, fun x hx => by
        rcases List.mem_append.mp hx with z | z
        · exact hacc.2 x z
        · rw [List.mem_singleton] at z; omega⟩
      have := ih q (i + 1) (acc ++ [m]) (by omega) (by omega) hL (by rw [List.length_append]; simp; omega) (fun j hj => by
        by_cases z : j = i
        · subst z
          rw [em, List.getD_eq_getElem?_getD, List.getElem?_append_right (by omega), hlen, Nat.sub_self]
          rfl
        · rw [hcv j (by omega), List.getD_eq_getElem?_getD, List.getD_eq_getElem?_getD, List.getElem?_append_left (by omega)])
      rw [e5] at this
      exact this
    · rw [isMark_n h1, bd1_some, if_pos rfl]
      have z : mk (fun w => (am a).testBit w && mtB (rowS (mLf ln mm w) b) c (fun i => sc (60 * k + (f0 + i)))) W = 0 := by
        refine msk_ext (N := W) (mk_lt _ _) (Nat.two_pow_pos W) (fun w hw => ?_)
        rw [mk_bit, Nat.zero_testBit, mtB_f]
        · simp
        · intro y
          have y2 := y.2 i (by omega)
          have g := getD_le (rowS_ok (hX.2.2.2.2.2.2.1 w hw).1 b) i
          exact h1 (by rw [show sc (60 * k + (f0 + i)) = nI ((rowS (mLf ln mm w) b).getD i 0) from y2]; exact nI_inR (by omega) (by decide))
      rw [z]
      rfl
theorem M_means (hn : 1000 ≤ n) (hM : okMT W Q nl ln mm am mletters mwords wMany wLetters masks aWords) {a b k f0 c : Nat} (ha : a < Q) (hb : b < 6) (hc : c ≤ 8) (hk : k < 4) {mc : Nat → Int32} {x5 : Int32} (h5 : 0 < c → x5 = nI f0 ∧ f0 + c ≤ 60) : ∀ (d q r : Nat) (s : Int32) (rs : Nat → Int32), r + d = W → d < q → ∃ s' f, fX9_means_p117 n mletters mwords wMany wLetters aWords mc (nI a) (nI b) (nI k) x5 (nI c) q s rs (nI (mk (fun w => (am a).testBit w && mtB (rowS (mLf ln mm w) b) c (fun i => mc (60 * k + (f0 + i)))) r)) (nI r) = some (nI (mk (fun w => (am a).testBit w && mtB (rowS (mLf ln mm w) b) c (fun i => mc (60 * k + (f0 + i)))) W), s', f) := by
  have hW := hM.1.1
  have hQ := hM.2.1
  obtain ⟨b1, b2⟩ := hM.2.2.2.2.1 a ha
  have h16 := pow16 hW b1
  have e := hM.2.2.1
  intro d
  induction d with
  | zero =>
    intro q r s rs hr hq
    obtain ⟨q, rfl⟩ : ∃ p, q = p + 1 := ⟨q - 1, by omega⟩
    rw [fX9_means_p117, e, if_pos (nI_le (by omega) (by omega)), show r = W from by omega]
    exact ⟨_, _, rfl⟩
  | succ d ih =>
    intro q r s rs hr hq
    obtain ⟨q, rfl⟩ : ∃ p, q = p + 1 := ⟨q - 1, by omega⟩
    obtain ⟨f, f1, f2⟩ := M_rowOf hn hb hM.1 (by omega : r < W) rs
    have hL := rowS_ok (okM_L hM.1 (by omega : r < W)) b
    have h8 := hL.1
    rw [fX9_means_p117, e, if_neg (nI_ge (by omega) (by omega)), ← e, f1, bd2_some, ar_nI (by omega) (by decide), b2]
    have p225 : ∀ x9 : Int32, (x9 = if ((am a).testBit r && mtB (rowS (mLf ln mm r) b) c (fun i => mc (60 * k + (f0 + i)))) = true then 1 else 0) → ∃ s' g, fX9_means_p225 n mletters mwords wMany wLetters aWords (nI (rowS (spc (mm r) (ln r)) b).length) f mc (nI a) (nI b) (nI k) x5 (nI c) (nI (mk (fun w => (am a).testBit w && mtB (rowS (mLf ln mm w) b) c (fun i => mc (60 * k + (f0 + i)))) r)) (nI r) x9 (fX9_means_p117 n mletters mwords wMany wLetters aWords mc (nI a) (nI b) (nI k) x5 (nI c) q) = some (nI (mk (fun w => (am a).testBit w && mtB (rowS (mLf ln mm w) b) c (fun i => mc (60 * k + (f0 + i)))) W), s', g) := by
      intro x9 h9
      unfold fX9_means_p225
      by_cases z : ((am a).testBit r && mtB (rowS (mLf ln mm r) b) c (fun i => mc (60 * k + (f0 + i)))) = true
      · rw [h9, if_pos z, if_neg i10, nm, or_mk (by omega) z, nI_1]
        exact ih q (r + 1) _ _ (by omega) (by omega)
      · rw [h9, if_neg z, if_pos rfl, nm, i0nI, fa_or, Nat.or_zero, nI_1, ← mk_no (p := fun w => (am a).testBit w && mtB (rowS (mLf ln mm w) b) c (fun i => mc (60 * k + (f0 + i)))) (k := r) (by simpa using z)]
        exact ih q (r + 1) _ _ (by omega) (by omega)
    have zero : ∀ (q2 i : Nat), 0 < q2 → ((am a).testBit r && mtB (rowS (mLf ln mm r) b) c (fun i => mc (60 * k + (f0 + i)))) = false → ∃ s' g, fX9_means_p175 n mletters mwords wMany wLetters aWords (nI (rowS (spc (mm r) (ln r)) b).length) f mc (nI a) (nI b) (nI k) x5 (nI c) (nI (mk (fun w => (am a).testBit w && mtB (rowS (mLf ln mm w) b) c (fun i => mc (60 * k + (f0 + i)))) r)) (nI r) (fX9_means_p117 n mletters mwords wMany wLetters aWords mc (nI a) (nI b) (nI k) x5 (nI c) q) q2 0 (nI i) = some (nI (mk (fun w => (am a).testBit w && mtB (rowS (mLf ln mm w) b) c (fun i => mc (60 * k + (f0 + i)))) W), s', g) := by
      intro q2 i hq2 hz
      obtain ⟨q2, rfl⟩ : ∃ p, q2 = p + 1 := ⟨q2 - 1, by omega⟩
      rw [fX9_means_p175, if_pos rfl, ite_self]
      exact p225 0 (by rw [hz]; rfl)
    by_cases qb : (am a).testBit r = true
    · rw [if_pos ((bitv1 (by omega) (by omega)).mpr qb)]
      by_cases ql : (rowS (spc (mm r) (ln r)) b).length = c
      · rw [if_pos (by rw [ql])]
        have key : ∀ (d2 q2 i : Nat), i + d2 = c → d2 + 1 < q2 → (∀ j, j < i → f j = mc (60 * k + (f0 + j))) → ∃ s' g, fX9_means_p175 n mletters mwords wMany wLetters aWords (nI (rowS (spc (mm r) (ln r)) b).length) f mc (nI a) (nI b) (nI k) x5 (nI c) (nI (mk (fun w => (am a).testBit w && mtB (rowS (mLf ln mm w) b) c (fun i => mc (60 * k + (f0 + i)))) r)) (nI r) (fX9_means_p117 n mletters mwords wMany wLetters aWords mc (nI a) (nI b) (nI k) x5 (nI c) q) q2 1 (nI i) = some (nI (mk (fun w => (am a).testBit w && mtB (rowS (mLf ln mm w) b) c (fun i => mc (60 * k + (f0 + i)))) W), s', g) := by
          intro d2
          induction d2 with
          | zero =>
            intro q2 i hi hq2 hj
            obtain ⟨q2, rfl⟩ : ∃ p, q2 = p + 1 := ⟨q2 - 1, by omega⟩
            rw [fX9_means_p175, if_pos (nI_le (by omega) (by omega))]
            refine p225 1 ?_
            rw [if_pos]
            rw [qb, Bool.true_and, mtB_t]
            exact ⟨ql, fun j hj2 => (hj j (by omega)).symm.trans (f2 j (by omega))⟩
          | succ d2 ih2 =>
            intro q2 i hi hq2 hj
            obtain ⟨q2, rfl⟩ : ∃ p, q2 = p + 1 := ⟨q2 - 1, by omega⟩
            obtain ⟨e5, e6⟩ := h5 (by omega)
            rw [fX9_means_p175, if_neg (nI_ge (by omega) (by omega)), if_neg i10, ar_nI (by omega) (by decide)]
            have hidx : nI 60 * nI k + x5 + nI i = nI (60 * k + (f0 + i)) := by rw [e5, pk_mul, nI_add, nI_add, Nat.add_assoc]
            rw [show (60 : Int32) = nI 60 from rfl, hidx, ar_nI (by omega) (by decide)]
            by_cases z : f i = mc (60 * k + (f0 + i))
            · rw [if_pos z, nI_1]
              exact ih2 q2 (i + 1) (by omega) (by omega) (lt_s hj z)
            · rw [if_neg z, nI_1]
              refine zero q2 (i + 1) (by omega) ?_
              rw [mtB_f, Bool.and_false]
              intro y
              exact z (by rw [f2 i (by omega)]; exact (y.2 i (by omega)).symm)
        exact key c n 0 (by omega) (by omega) (fun j hj => absurd hj (by omega))
      · rw [if_neg (by rw [nI_eq (by omega) (by omega)]; exact ql)]
        exact zero n 0 (by omega) (by rw [mtB_f (l := rowS (mLf ln mm r) b) (fun y => ql y.1), Bool.and_false])
    · rw [if_neg (fun z => qb ((bitv1 (by omega) (by omega)).mp z))]
      exact zero n 0 (by omega) (by simp [qb])
theorem add64 {x : Int32} {i : Nat} (hi : i < 100) : (x.toInt64 + (nI i).toInt64).toInt = x.toInt + i := by
  have := fb_rng x
  rw [fb_addL] <;> rw [i32_64, i32_64, nI_toInt (by omega)] <;> omega
theorem P_means (hn : 1000 ≤ n) (hX : okX W Q nl ln (mLf ln mm) am spelled rows alike near asks letters words askCount) (hM : okMT W Q nl ln mm am mletters mwords wMany wLetters masks aWords) {sl ss sc ml ms mc : Nat → Int32} (hS : RS sl ss sc ml ms mc) (s : Int32) (rs : Nat → Int32) (x1 x2 x3 x4 x5 x6 : Int32) :
    ∃ (r s' : Int32) (f : Nat → Int32), fX8_means n sl ss sc rows asks words askCount x1 x2 x3 x4 x5 x6 = some r ∧ fX9_means n mletters mwords wMany wLetters masks aWords s rs ml ms mc x1 x2 x3 x4 x5 x6 = some (r, s', f) := by
  have hW := hX.1
  have hQ := hX.2.1
  have e3 : askCount = nI Q := hX.2.2.2.2.2.1
  have e4 : masks = nI Q := hM.2.2.2.1
  unfold fX8_means fX9_means fX9_isSheet
  rw [e3, e4]
  rcases ixc x1 Q with ⟨a, ha, rfl⟩ | h1
  · rw [fX7_isAsk_y ha (by omega), fX9_isAsk_y ha (by omega), bd1_some, bd1_some, if_neg i10, if_neg i10]
    rcases ixc x2 6 with ⟨b, hb, rfl⟩ | h1
    · rw [fX8_isBlur_y hb, fX9_isBlur_y hb, bd1_some, bd1_some, if_neg i10, if_neg i10]
      rcases ixc x3 4 with ⟨k, hk, rfl⟩ | h1
      · rw [fX4_isSheet_y hk, M_3_y hk, bd1_some, bd1_some, if_neg i10, if_neg i10]
        rcases ixc x4 3 with ⟨l, hl, rfl⟩ | h1
        · rw [fX4_isLane_y hl, M_2_y hl, bd1_some, bd1_some, if_neg i10, if_neg i10, bd1_some, if_neg i10]
          rcases ixc x6 9 with ⟨c, hc, rfl⟩ | h1
          · have m8 : fX9_in n (nI c).toInt64 (0 : Int64) (8 : Int64) = some 1 := M_in_y (N := 8) (by omega) (by decide)
            rw [m8, bd1_some, if_neg i10, if_neg (nI_pos (by omega)), show (8 : Int32) = nI 8 from rfl, if_pos (nI_le (by omega) (by decide)), ar_nI hk (by decide)]
            rcases hS k hk with ⟨q1, q2⟩ | ⟨l', z, hl', hz, q3, q4, q5, q6, q7⟩
            · rw [X_fault_none hk q2, bd1_some, if_neg i10, q1, if_neg (fun y => ne_m4 (a := l) (by omega) y.symm), ar_nI hk (by decide), q1, if_pos rfl]
              exact ⟨_, _, _, rfl, rfl⟩
            · rw [q3]
              by_cases ll : l' = l
              · subst ll
                rw [if_pos rfl]
                -- both go on
                have go : ∀ f0 : Nat, (0 < c → x5 = nI f0 ∧ f0 + c ≤ z) → ∃ (r s' : Int32) (f : Nat → Int32), fX8_means_p80 n sc rows asks words (nI a) (nI b) (nI k) x5 (nI c) n 0 0 = some r ∧ fX9_means_p117 n mletters mwords wMany wLetters aWords mc (nI a) (nI b) (nI k) x5 (nI c) n s rs 0 0 = some (r, s', f) := by
                  intro f0 hf
                  have x := X_means hn hX (x5 := x5) (f0 := f0) ha hb (by omega : c ≤ 8) hk (sc := sc) (fun q => ⟨(hf q).1, by have := (hf q).2; omega⟩) c n 0 [] (by omega) (by omega) ⟨by decide, fun m hm => by cases hm⟩ rfl (fun j hj => absurd hj (by omega))
                  obtain ⟨s', f, y⟩ := M_means hn hM (x5 := x5) (f0 := f0) ha hb (by omega : c ≤ 8) hk (mc := mc) (fun q => ⟨(hf q).1, by have := (hf q).2; omega⟩) W n 0 s rs (by omega) (by omega)
                  have ecv : mk (fun w => (am a).testBit w && mtB (rowS (mLf ln mm w) b) c (fun i => mc (60 * k + (f0 + i)))) W = mk (fun w => (am a).testBit w && mtB (rowS (mLf ln mm w) b) c (fun i => sc (60 * k + (f0 + i)))) W := by
                    refine mk_cong (fun w hw => ?_)
                    congr 1
                    have hh : mt (rowS (mLf ln mm w) b) c (fun i => mc (60 * k + (f0 + i))) ↔ mt (rowS (mLf ln mm w) b) c (fun i => sc (60 * k + (f0 + i))) := by
                      unfold mt
                      constructor
                      · rintro ⟨m1, m2⟩
                        exact ⟨m1, fun i hi => (q7 (f0 + i) (by have := (hf (by omega)).2; omega)).symm.trans (m2 i hi)⟩
                      · rintro ⟨m1, m2⟩
                        exact ⟨m1, fun i hi => (q7 (f0 + i) (by have := (hf (by omega)).2; omega)).trans (m2 i hi)⟩
                    by_cases y2 : mt (rowS (mLf ln mm w) b) c (fun i => mc (60 * k + (f0 + i)))
                    · rw [mtB_t.mpr y2, mtB_t.mpr (hh.mp y2)]
                    · rw [mtB_f y2, mtB_f (fun w => y2 (hh.mpr w))]
                  refine ⟨_, s', f, x, ?_⟩
                  rw [← ecv]
                  exact y
                have step : ∀ (d q i : Nat), i + d = c → d < q → (∀ j, i ≤ j → j < c → 0 ≤ x5.toInt + j ∧ x5.toInt + j < z) → fX9_means_p72 n mletters mwords wMany wLetters aWords s rs ms mc (nI a) (nI b) (nI k) x5 (nI c) q (nI i) = fX9_means_p117 n mletters mwords wMany wLetters aWords mc (nI a) (nI b) (nI k) x5 (nI c) n s rs 0 0 := by
                  intro d
                  induction d with
                  | zero =>
                    intro q i hi hq _
                    obtain ⟨q, rfl⟩ : ∃ p, q = p + 1 := ⟨q - 1, by omega⟩
                    rw [fX9_means_p72, if_pos (nI_le (by omega) (by omega))]
                  | succ d ih =>
                    intro q i hi hq hj
                    obtain ⟨q, rfl⟩ : ∃ p, q = p + 1 := ⟨q - 1, by omega⟩
                    have := hj i (Nat.le_refl _) (by omega)
                    rw [fX9_means_p72, if_neg (nI_ge (by omega) (by omega)), ar_nI hk (by decide), q5, M_in, add64 (by omega), i32_64, nI_m1 (by omega), show (0 : Int64).toInt = 0 from rfl, if_pos (by omega), bd1_some, if_neg i10, nI_1]
                    exact ih q (i + 1) (by omega) (by omega) (fun j h1 h2 => hj j (by omega) h2)
                have stop : ∀ (d q i : Nat), i + d = c → d < q → (∃ j, i ≤ j ∧ j < c ∧ ¬ (0 ≤ x5.toInt + j ∧ x5.toInt + j < z)) → fX9_means_p72 n mletters mwords wMany wLetters aWords s rs ms mc (nI a) (nI b) (nI k) x5 (nI c) q (nI i) = some (-12, s, rs) := by
                  intro d
                  induction d with
                  | zero =>
                    rintro q i hi hq ⟨j, h1, h2, -⟩
                    omega
                  | succ d ih =>
                    rintro q i hi hq ⟨j, h1, h2, h3⟩
                    obtain ⟨q, rfl⟩ : ∃ p, q = p + 1 := ⟨q - 1, by omega⟩
                    rw [fX9_means_p72, if_neg (nI_ge (by omega) (by omega)), ar_nI hk (by decide), q5, M_in, add64 (by omega), i32_64, nI_m1 (by omega), show (0 : Int64).toInt = 0 from rfl]
                    by_cases y : 0 ≤ x5.toInt + (i : Int) ∧ x5.toInt + (i : Int) ≤ (z : Int) - 1
                    · rw [if_pos y, bd1_some, if_neg i10, nI_1]
                      have hij : i + 1 ≤ j := by
                        by_cases w : j = i
                        · subst w
                          exact absurd ⟨y.1, by omega⟩ h3
                        · omega
                      exact ih q (i + 1) (by omega) (by omega) ⟨j, hij, h2, h3⟩
                    · rw [if_neg y, bd1_some, if_pos rfl]
                by_cases c0 : c = 0
                · subst c0
                  have hF : fX4_faultOfRow n sl ss (nI k) (nI l') x5 (nI 0) = some 0 := X_fault_0 x5 hk hz q6 q4
                  rw [hF, bd1_some, if_pos rfl]
                  have := step 0 n 0 (by omega) (by omega) (fun j _ h2 => absurd h2 (by omega))
                  rw [show (0 : Int32) = nI 0 from rfl, this]
                  exact go 0 (fun q => absurd q (by omega))
                · by_cases cin : 0 ≤ x5.toInt ∧ x5.toInt + c ≤ z
                  · obtain ⟨f0, hf0, rfl⟩ := inR_nI (x := x5) (N := 61) ⟨cin.1, by omega⟩
                    rw [nI_toInt (by omega)] at cin
                    rw [X_fault_in hk hz q6 q4 (by omega) (by omega), bd1_some, if_pos rfl]
                    have := step c n 0 (by omega) (by omega) (fun j _ h2 => by rw [nI_toInt (by omega)]; omega)
                    rw [show fX9_means_p72 n mletters mwords wMany wLetters aWords s rs ms mc (nI a) (nI b) (nI k) (nI f0) (nI c) n 0 = _ from this]
                    exact go f0 (fun _ => ⟨rfl, by omega⟩)
                  · rw [X_fault_out hk hz q6 q4 (by omega) (by omega) cin, bd1_some, if_neg (by decide)]
                    have := stop c n 0 (by omega) (by omega) (by
                      by_cases y : 0 ≤ x5.toInt
                      · exact ⟨c - 1, by omega, by omega, by omega⟩
                      · exact ⟨0, by omega, by omega, by omega⟩)
                    rw [show fX9_means_p72 n mletters mwords wMany wLetters aWords s rs ms mc (nI a) (nI b) (nI k) x5 (nI c) n 0 = _ from this]
                    exact ⟨_, _, _, rfl, rfl⟩
              · have ne : ¬ nI l' = nI l := by rw [nI_eq (by omega) (by omega)]; exact ll
                rw [X_fault_cast hk hz q6 q4 ne, bd1_some, if_neg (by decide), if_neg ne, ar_nI hk (by decide), q3, if_neg (ne_m4 (by omega))]
                exact ⟨_, _, _, rfl, rfl⟩
          · have m8 : fX9_in n x6.toInt64 (0 : Int64) (8 : Int64) = some 0 := M_in_n (N := 8) (by decide) h1
            rw [m8, bd1_some, if_pos rfl]
            refine ⟨-1, _, _, ?_, rfl⟩
            by_cases y : x6 < 0
            · rw [if_pos y]
            · rw [if_neg y, if_neg]
              rw [show (8 : Int32) = nI 8 from rfl, lenI_iff (by decide)]
              rw [lt0_iff] at y
              unfold inR at h1
              omega
        · rw [fX4_isLane_n h1, M_2_n h1]
          simp only [bd1_some, if_pos rfl]
          exact ⟨_, _, _, rfl, rfl⟩
      · rw [fX4_isSheet_n h1, M_3_n h1]
        simp only [bd1_some, if_pos rfl]
        exact ⟨_, _, _, rfl, rfl⟩
    · rw [fX8_isBlur_n h1, fX9_isBlur_n h1, bd1_some, bd1_some, if_pos rfl, if_pos rfl]
      exact ⟨_, _, _, rfl, rfl⟩
  · rw [fX7_isAsk_n (by omega) h1, fX9_isAsk_n (by omega) h1, bd1_some, bd1_some, if_pos rfl, if_pos rfl]
    exact ⟨_, _, _, rfl, rfl⟩
end CM

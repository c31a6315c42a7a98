/-! what a row MEANS for an ask; both, sure -/
def hdP (am : Nat → Nat) (mL : Nat → List Nat) (a w b : Nat) : Nat → Bool := fun v => (am a).testBit v && decide (rowS (mL v) b = rowS (mL w) b)
theorem ct_one {m w : Nat} (hm : m < 65536) (hw : w < 16) (hb : m.testBit w = true) : ct m = 1 ↔ m = 2 ^ w := by
  unfold ct
  have h := fb_ct_upd (fun k => m.testBit k) false (i := w) hw
  rw [if_pos hb, if_neg (by decide), Nat.add_zero] at h
  constructor
  · intro q
    rw [q] at h
    have z : fb_ct (fun k => if k = w then false else m.testBit k) 16 = 0 := by omega
    rw [fb_ct_zero] at z
    refine msk_ext (N := 16) hm (Nat.pow_lt_pow_right (by decide) hw) (fun j hj => ?_)
    rw [Nat.testBit_two_pow]
    by_cases e : j = w
    · subst e
      simp [hb]
    · have := z j hj
      rw [if_neg e] at this
      rw [this]
      simp
      exact fun q => e q.symm
  · intro q
    have z : fb_ct (fun k => if k = w then false else m.testBit k) 16 = 0 := by
      rw [fb_ct_zero]
      intro k hk
      by_cases e : k = w
      · rw [if_pos e]
      · rw [if_neg e, q, Nat.testBit_two_pow]
        simp
        exact fun q => e q.symm
    omega
section SU
variable {n W Q nl : Nat} {ln : Nat → Nat} {mm : Nat → Nat → Nat} {am : Nat → Nat} {spelled alike near asks : Nat → Int32} {rows : Nat → Int64} {letters words askCount : Int32} {mletters wMany wLetters aWords : Nat → Int32} {mwords masks : Int32}
theorem X_fits_y (hX : okX W Q nl ln (mLf ln mm) am spelled rows alike near asks letters words askCount) {a w : Nat} (ha : a < Q) (hw : w < W) (hb : (am a).testBit w = true) : fX7_fits n asks words askCount (nI a) (nI w) = some 1 := by
  have hW := hX.1
  have hQ := hX.2.1
  obtain ⟨b1, b2⟩ := hX.2.2.2.2.2.2.2 a ha
  have h16 := pow16 hW b1
  unfold fX7_fits
  rw [hX.2.2.2.2.1, hX.2.2.2.2.2.1, fX7_isAsk_y ha (by omega), bd1_some, if_neg i10, fX7_isWord_y hw (by omega), bd1_some, if_neg i10, ar_nI (by omega) (by decide), b2, X_isIn (by omega) (by omega), bd1_some, if_pos hb, if_neg i10]
theorem X_fits_n (hX : okX W Q nl ln (mLf ln mm) am spelled rows alike near asks letters words askCount) {x y : Int32} (h : ¬ ∃ a w, a < Q ∧ w < W ∧ (am a).testBit w = true ∧ x = nI a ∧ y = nI w) : fX7_fits n asks words askCount x y = some 0 := by
  have hW := hX.1
  have hQ := hX.2.1
  unfold fX7_fits
  rw [hX.2.2.2.2.1, hX.2.2.2.2.2.1]
  rcases ixc x Q with ⟨a, ha, rfl⟩ | h1
  · rw [fX7_isAsk_y ha (by omega), bd1_some, if_neg i10]
    rcases ixc y W with ⟨w, hw, rfl⟩ | h1
    · obtain ⟨b1, b2⟩ := hX.2.2.2.2.2.2.2 a ha
      have h16 := pow16 hW b1
      rw [fX7_isWord_y hw (by omega), bd1_some, if_neg i10, ar_nI (by omega) (by decide), b2, X_isIn (by omega) (by omega), bd1_some, if_neg (fun z => h ⟨a, w, ha, hw, z, rfl, rfl⟩), if_pos rfl]
    · rw [fX7_isWord_n (by omega) h1, bd1_some, if_pos rfl]
  · rw [fX7_isAsk_n (by omega) h1, bd1_some, if_pos rfl]
theorem M_fits_y (hM : okMT W Q nl ln mm am mletters mwords wMany wLetters masks aWords) {a w : Nat} (ha : a < Q) (hw : w < W) (hb : (am a).testBit w = true) : fX9_fitsAsk n mwords masks aWords (nI a) (nI w) = some 1 := by
  have hW := hM.1.1
  have hQ := hM.2.1
  obtain ⟨b1, b2⟩ := hM.2.2.2.2.1 a ha
  have h16 := pow16 hW b1
  unfold fX9_fitsAsk
  rw [hM.2.2.1, hM.2.2.2.1, fX9_isAsk_y ha (by omega), bd1_some, if_neg i10, fX9_isWord_y hw (by omega), bd1_some, if_neg i10, ar_nI (by omega) (by decide), b2, if_pos ((bitv1 (by omega) (by omega)).mpr hb)]
theorem M_fits_n (hM : okMT W Q nl ln mm am mletters mwords wMany wLetters masks aWords) {x y : Int32} (h : ¬ ∃ a w, a < Q ∧ w < W ∧ (am a).testBit w = true ∧ x = nI a ∧ y = nI w) : fX9_fitsAsk n mwords masks aWords x y = some 0 := by
  have hW := hM.1.1
  have hQ := hM.2.1
  unfold fX9_fitsAsk
  rw [hM.2.2.1, hM.2.2.2.1]
  rcases ixc x Q with ⟨a, ha, rfl⟩ | h1
  · rw [fX9_isAsk_y ha (by omega), bd1_some, if_neg i10]
    rcases ixc y W with ⟨w, hw, rfl⟩ | h1
    · obtain ⟨b1, b2⟩ := hM.2.2.2.2.1 a ha
      have h16 := pow16 hW b1
      rw [fX9_isWord_y hw (by omega), bd1_some, if_neg i10, ar_nI (by omega) (by decide), b2, if_neg (fun z => h ⟨a, w, ha, hw, (bitv1 (by omega) (by omega)).mp z, rfl, rfl⟩)]
    · rw [fX9_isWord_n (by omega) h1, bd1_some, if_pos rfl]
  · rw [fX9_isAsk_n (by omega) h1, bd1_some, if_pos rfl]
theorem X_alikeTo (hX : okX W Q nl ln (mLf ln mm) am spelled rows alike near asks letters words askCount) {w b : Nat} (hw : w < W) (hb : b < 6) : fX7_alikeTo n alike (nI w) (nI b) = some (nI (mk (fun v => decide (rowS (mLf ln mm v) b = rowS (mLf ln mm w) b)) W)) := by
  have hW := hX.1
  unfold fX7_alikeTo
  rw [show (16 : Int32) = nI 16 from rfl, pk_mul, nI_add, ar_nI (by omega) (by decide), ((hX.2.2.2.2.2.2.1 w hw).2.2.2.2 b hb).2]
theorem and_mk {m N : Nat} {p : Nat → Bool} : m &&& mk p N = mk (fun v => m.testBit v && p v) N := by
  refine msk_ext (N := N) (Nat.lt_of_le_of_lt Nat.and_le_right (mk_lt p N)) (mk_lt _ _) (fun j hj => ?_)
  rw [Nat.testBit_and, mk_bit, mk_bit]
  simp [hj]
theorem X_heardAs (hX : okX W Q nl ln (mLf ln mm) am spelled rows alike near asks letters words askCount) {a w b : Nat} (ha : a < Q) (hw : w < W) (hb : b < 6) : fX7_heardAs n alike asks (nI a) (nI w) (nI b) = some (nI (mk (hdP am (mLf ln mm) a w b) W)) := by
  have hQ := hX.2.1
  obtain ⟨b1, b2⟩ := hX.2.2.2.2.2.2.2 a ha
  unfold fX7_heardAs
  rw [ar_nI (by omega) (by decide), b2, X_alikeTo hX hw hb, bd1_some, fa_and, and_mk]
  rfl
theorem M_meaning (hn : 1000 ≤ n) (hM : okMT W Q nl ln mm am mletters mwords wMany wLetters masks aWords) {a w b : Nat} (ha : a < Q) (hw : w < W) (hb : b < 6) (s t : Int32) (rs rt : Nat → Int32) : ∃ s' f t' g, fX9_meaning n mletters mwords wMany wLetters aWords s rs t rt (nI a) (nI w) (nI b) = some (nI (mk (hdP am (mLf ln mm) a w b) W), s', f, t', g) := by
  have hW := hM.1.1
  have hQ := hM.2.1
  obtain ⟨b1, b2⟩ := hM.2.2.2.2.1 a ha
  have h16 := pow16 hW b1
  unfold fX9_meaning
  have g : ∀ (d k r : Nat) (s t : Int32) (rs rt : Nat → Int32), r + d = W → d < k → ∃ s' f t' g, fX9_meaning_p6 n mletters mwords wMany wLetters aWords (nI a) (nI w) (nI b) k s rs t rt (nI (mk (hdP am (mLf ln mm) a w b) r)) (nI r) = some (nI (mk (hdP am (mLf ln mm) a w b) W), s', f, t', g) := by
    intro d
    induction d with
    | zero =>
      intro k r s t rs rt hr hk
      obtain ⟨k, rfl⟩ : ∃ q, k = q + 1 := ⟨k - 1, by omega⟩
      rw [fX9_meaning_p6, hM.2.2.1, if_pos (nI_le (by omega) (by omega)), show r = W from by omega]
      exact ⟨_, _, _, _, rfl⟩
    | succ d ih =>
      intro k r s t rs rt hr hk
      obtain ⟨k, rfl⟩ : ∃ q, k = q + 1 := ⟨k - 1, by omega⟩
      rw [fX9_meaning_p6]
      have e := hM.2.2.1
      rw [e, if_neg (nI_ge (by omega) (by omega)), ← e, ar_nI (by omega) (by decide), b2]
      by_cases q : (am a).testBit r = true
      · rw [if_pos ((bitv1 (by omega) (by omega)).mpr q)]
        obtain ⟨s', f, t', g, h⟩ := M_areOne hn hb hM.1 (by omega : r < W) hw s t rs rt
        rw [h, bd5_some]
        by_cases z : rowS (spc (mm r) (ln r)) b = rowS (spc (mm w) (ln w)) b
        · rw [if_pos z, if_neg i10, nm, or_mk (by omega) (by unfold hdP mLf; simp [q, z]), nI_1]
          exact ih k (r + 1) _ _ _ _ (by omega) (by omega)
        · rw [if_neg z, if_pos rfl, nm, i0nI, fa_or, Nat.or_zero, nI_1, ← mk_no (p := hdP am (mLf ln mm) a w b) (k := r) (by unfold hdP mLf; simp [z])]
          exact ih k (r + 1) _ _ _ _ (by omega) (by omega)
      · rw [if_neg (fun z => q ((bitv1 (by omega) (by omega)).mp z)), nm, i0nI, fa_or, Nat.or_zero, nI_1, ← mk_no (p := hdP am (mLf ln mm) a w b) (k := r) (by unfold hdP mLf; simp [q])]
        exact ih k (r + 1) _ _ _ _ (by omega) (by omega)
  exact g W n 0 s t rs rt (by omega) (by omega)
theorem P_both (hn : 1000 ≤ n) (hX : okX W Q nl ln (mLf ln mm) am spelled rows alike near asks letters words askCount) (hM : okMT W Q nl ln mm am mletters mwords wMany wLetters masks aWords) (s t : Int32) (rs rt : Nat → Int32) (x1 x2 x3 x4 : Int32) :
    ∃ (r s' : Int32) (f : Nat → Int32) (t' : Int32) (g : Nat → Int32), fX8_both n alike asks words askCount x1 x2 x3 x4 = some r ∧ fX9_both n mletters mwords wMany wLetters masks aWords s rs t rt x1 x2 x3 x4 = some (r, s', f, t', g) := by
  unfold fX8_both fX9_both
  by_cases c : ∃ a w, a < Q ∧ w < W ∧ (am a).testBit w = true ∧ x1 = nI a ∧ x2 = nI w
  · obtain ⟨a, w, ha, hw, hb, rfl, rfl⟩ := c
    rw [X_fits_y hX ha hw hb, M_fits_y hM ha hw hb, bd1_some, bd1_some, if_neg i10, if_neg i10]
    rcases ixc x3 6 with ⟨b, hb, rfl⟩ | h1
    · rw [fX8_isBlur_y hb, fX9_isBlur_y hb, bd1_some, bd1_some, if_neg i10, if_neg i10]
      rcases ixc x4 6 with ⟨b', hb', rfl⟩ | h1
      · obtain ⟨s', f, t', g, h1⟩ := M_meaning hn hM ha hw hb s t rs rt
        obtain ⟨s2, f2, t2, g2, h2⟩ := M_meaning hn hM ha hw hb' s' t' f g
        rw [fX8_isBlur_y hb', fX9_isBlur_y hb', bd1_some, bd1_some, if_neg i10, if_neg i10, X_heardAs hX ha hw hb, X_heardAs hX ha hw hb', bd1_some, bd1_some, h1, bd5_some, h2, bd5_some]
        exact ⟨_, _, _, _, _, rfl, rfl⟩
      · rw [fX8_isBlur_n h1, fX9_isBlur_n h1, bd1_some, bd1_some, if_pos rfl, if_pos rfl]
        exact ⟨_, _, _, _, _, rfl, rfl⟩
    · rw [fX8_isBlur_n h1, fX9_isBlur_n h1, bd1_some, bd1_some, if_pos rfl, if_pos rfl]
      exact ⟨_, _, _, _, _, rfl, rfl⟩
  · rw [X_fits_n hX c, M_fits_n hM c, bd1_some, bd1_some, if_pos rfl, if_pos rfl]
    exact ⟨_, _, _, _, _, rfl, rfl⟩
theorem hd_self {mL : Nat → List Nat} {a w b : Nat} (hw : w < W) (hb : (am a).testBit w = true) : (mk (hdP am mL a w b) W).testBit w = true := by
  rw [mk_bit]
  unfold hdP
  simp [hw, hb]
theorem X_isSure (hX : okX W Q nl ln (mLf ln mm) am spelled rows alike near asks letters words askCount) {a w b : Nat} (ha : a < Q) (hw : w < W) (hb : b < 6) (hbit : (am a).testBit w = true) : fX7_isSure n alike asks (nI a) (nI w) (nI b) = some (if mk (hdP am (mLf ln mm) a w b) W = 2 ^ w then 1 else 0) := by
  have hW := hX.1
  have h16 : mk (hdP am (mLf ln mm) a w b) W < 65536 := pow16 hW (mk_lt _ _)
  have hc := ct_one h16 (by omega : w < 16) (hd_self hw hbit)
  have hle := ct_le (mk (hdP am (mLf ln mm) a w b) W)
  unfold fX7_isSure
  rw [X_heardAs hX ha hw hb, bd1_some, J_bitCount h16, bd1_some]
  by_cases q : mk (hdP am (mLf ln mm) a w b) W = 2 ^ w
  · rw [if_pos (by rw [hc.mpr q]; rfl), if_pos q]
  · rw [if_neg (by rw [i1nI, nI_eq (by omega) (by decide)]; exact fun z => q (hc.mp z)), if_neg q]
/-- the greatest BLUR below b at which it is SURE -/
def bst (am : Nat → Nat) (mL : Nat → List Nat) (W a w : Nat) : Nat → Int32
  | 0 => -4
  | b + 1 => if mk (hdP am mL a w b) W = 2 ^ w then nI b else bst am mL W a w b
theorem P_sure (hn : 1000 ≤ n) (hX : okX W Q nl ln (mLf ln mm) am spelled rows alike near asks letters words askCount) (hM : okMT W Q nl ln mm am mletters mwords wMany wLetters masks aWords) (s t : Int32) (rs rt : Nat → Int32) (x1 x2 : Int32) :
    ∃ (r s' : Int32) (f : Nat → Int32) (t' : Int32) (g : Nat → Int32), fX8_sure n alike asks words askCount x1 x2 = some r ∧ fX9_sure n mletters mwords wMany wLetters masks aWords s rs t rt x1 x2 = some (r, s', f, t', g) := by
  unfold fX8_sure fX9_sure
  by_cases c : ∃ a w, a < Q ∧ w < W ∧ (am a).testBit w = true ∧ x1 = nI a ∧ x2 = nI w
  · obtain ⟨a, w, ha, hw, hbit, rfl, rfl⟩ := c
    rw [X_fits_y hX ha hw hbit, M_fits_y hM ha hw hbit, bd1_some, bd1_some, if_neg i10, if_neg i10]
    have hW := hX.1
    have x : ∀ (b k : Nat), b ≤ 6 → b < k → fX8_sure_p16 n alike asks (nI a) (nI w) k (nI b + (-1)) = some (bst am (mLf ln mm) W a w b) := by
      intro b
      induction b with
      | zero =>
        intro k _ hk
        obtain ⟨k, rfl⟩ : ∃ q, k = q + 1 := ⟨k - 1, by omega⟩
        rw [fX8_sure_p16, if_pos (by decide)]
        rfl
      | succ b ih =>
        intro k hb hk
        obtain ⟨k, rfl⟩ : ∃ q, k = q + 1 := ⟨k - 1, by omega⟩
        rw [fX8_sure_p16, pk_m1, if_neg (nI_pos (by omega)), X_isSure hX ha hw (by omega) hbit, bd1_some, bst]
        by_cases q : mk (hdP am (mLf ln mm) a w b) W = 2 ^ w
        · rw [if_pos q, if_pos q, if_neg i10]
        · rw [if_neg q, if_neg q, if_pos rfl]
          exact ih k (by omega) (by omega)
    have y : ∀ (d k b : Nat) (s t : Int32) (rs rt : Nat → Int32), b + d = 6 → d < k → ∃ s' f t' g, fX9_sure_p17 n mletters mwords wMany wLetters aWords (nI a) (nI w) k s rs t rt (bst am (mLf ln mm) W a w b) (nI b) = some (bst am (mLf ln mm) W a w 6, s', f, t', g) := by
      intro d
      induction d with
      | zero =>
        intro k b s t rs rt hb hk
        obtain ⟨k, rfl⟩ : ∃ q, k = q + 1 := ⟨k - 1, by omega⟩
        rw [fX9_sure_p17, show b = 6 from by omega, if_pos (by decide)]
        exact ⟨_, _, _, _, rfl⟩
      | succ d ih =>
        intro k b s t rs rt hb hk
        obtain ⟨k, rfl⟩ : ∃ q, k = q + 1 := ⟨k - 1, by omega⟩
        obtain ⟨s', f, t', g, h⟩ := M_meaning hn hM ha hw (b := b) (by omega) s t rs rt
        have h16 : mk (hdP am (mLf ln mm) a w b) W < 65536 := pow16 hW (mk_lt _ _)
        have hp : 2 ^ w < 65536 := Nat.pow_lt_pow_right (n := 16) (by decide) (by omega)
        have hi := ih k (b + 1) s' t' f g (by omega) (by omega)
        rw [bst] at hi
        rw [fX9_sure_p17, show (5 : Int32) = nI 5 from rfl, if_neg (nI_nlt (by omega) (by omega)), h, bd5_some, shl1 (by omega)]
        by_cases q : mk (hdP am (mLf ln mm) a w b) W = 2 ^ w
        · rw [if_pos q] at hi
          rw [if_pos (by rw [q]), nI_1]
          exact hi
        · rw [if_neg q] at hi
          rw [if_neg (by rw [nI_eq (by omega) (by omega)]; exact q), nI_1]
          exact hi
    obtain ⟨s', f, t', g, h⟩ := y 6 n 0 s t rs rt (by omega) (by omega)
    exact ⟨_, s', f, t', g, x 6 n (by omega) (by omega), h⟩
  · rw [X_fits_n hX c, M_fits_n hM c, bd1_some, bd1_some, if_pos rfl, if_pos rfl]
    exact ⟨_, _, _, _, _, rfl, rfl⟩
end SU

/-! the tongue as told, on both sides; word, ask, blurred, apart, until -/
theorem bm_0 {m : Nat} (h : m ≤ 20) : bm m 0 = some m := by
  unfold bm
  by_cases h1 : m < 16
  · rw [if_pos h1, Nat.pow_zero, Nat.div_one]
  · rw [if_neg h1]
    by_cases h2 : m < 20
    · rw [if_pos h2, if_pos (by decide)]
    · rw [if_neg h2, if_pos (by omega), if_pos (by decide), show m = 20 from by omega]
theorem fold_0 : ∀ (l acc : List Nat), (∀ m, m ∈ l → m ≤ 20) → l.foldl (rstep 0) acc = acc ++ l
  | [], acc, _ => by simp
  | m :: l, acc, h => by
    rw [List.foldl_cons, fold_0 l _ (fun x hx => h x (List.mem_cons_of_mem _ hx))]
    have : rstep 0 acc m = acc ++ [m] := by
      unfold rstep
      rw [bm_0 (h m List.mem_cons_self)]
      exact if_neg (fun z => absurd z.1 (by decide))
    rw [this, List.append_assoc]
    rfl
theorem rowS_0 {l : List Nat} (h : okL l) : rowS l 0 = l := by
  unfold rowS
  rw [fold_0 l [] h.2]
  rfl
/-- the class's tongue -/
def okX (W Q nl : Nat) (ln : Nat → Nat) (mL : Nat → List Nat) (am : Nat → Nat) (spelled : Nat → Int32) (rows : Nat → Int64) (alike near asks : Nat → Int32) (letters words askCount : Int32) : Prop :=
  W ≤ 16 ∧ Q ≤ 6 ∧ nl ≤ 26 ∧ letters = nI nl ∧ words = nI W ∧ askCount = nI Q ∧ (∀ w, w < W → okL (mL w) ∧ ln w ≤ 8 ∧ spelled w = nI (ln w) ∧ near w = nI (mk (fun v => dif1 (mL v) (mL w)) W) ∧ ∀ b, b < 6 → rows (b * 16 + w) = lN (pkl (rowS (mL w) b)) ∧ alike (b * 16 + w) = nI (mk (fun v => decide (rowS (mL v) b = rowS (mL w) b)) W)) ∧ ∀ a, a < Q → am a < 2 ^ W ∧ asks a = nI (am a)
/-- the reference's -/
def okMT (W Q nl : Nat) (ln : Nat → Nat) (mm : Nat → Nat → Nat) (am : Nat → Nat) (letters : Nat → Int32) (words : Int32) (wMany wLetters : Nat → Int32) (asks : Int32) (aWords : Nat → Int32) : Prop :=
  okM W ln mm letters wMany wLetters ∧ Q ≤ 6 ∧ words = nI W ∧ asks = nI Q ∧ (∀ a, a < Q → am a < 2 ^ W ∧ aWords a = nI (am a)) ∧ fb_ct (fun k => decide (letters k ≠ -1)) 26 = nl
def mLf (ln : Nat → Nat) (mm : Nat → Nat → Nat) : Nat → List Nat := fun w => spc (mm w) (ln w)
theorem pow16 {W x : Nat} (hW : W ≤ 16) (h : x < 2 ^ W) : x < 65536 := Nat.lt_of_lt_of_le h (Nat.pow_le_pow_right (by decide : 0 < 2) hW)
section WD
variable {n W Q nl : Nat} {ln : Nat → Nat} {mm : Nat → Nat → Nat} {am : Nat → Nat} {spelled alike near asks : Nat → Int32} {rows : Nat → Int64} {letters words askCount : Int32} {mletters wMany wLetters aWords : Nat → Int32} {mwords masks : Int32}
theorem X_rowAt (hX : okX W Q nl ln (mLf ln mm) am spelled rows alike near asks letters words askCount) {b w : Nat} (hb : b < 6) (hw : w < W) : fX7_rowAt n rows (nI b) (nI w) = some (lN (pkl (rowS (mLf ln mm w) b))) := by
  have hW := hX.1
  unfold fX7_rowAt
  rw [show (16 : Int32) = nI 16 from rfl, pk_mul, nI_add, ar_nI (by omega) (by decide), ((hX.2.2.2.2.2.2.1 w hw).2.2.2.2 b hb).1]
theorem lg0 (a b : Int64) : lg_cmp a b = 0 ↔ a = b := by
  unfold lg_cmp
  by_cases h : a > b
  · rw [if_pos h]
    constructor
    · intro q; exact absurd q (by decide)
    · intro q; subst q; rw [gt_iff_lt, fa_lt64] at h; omega
  · rw [if_neg h]
    by_cases e : a = b
    · rw [if_pos e]; simp [e]
    · rw [if_neg e]; simp [e]
theorem pkl_eq {l l' : List Nat} (h : okL l) (h' : okL l') : lN (pkl l) = lN (pkl l') ↔ l = l' := by
  have a1 := pkl_lt40 h
  have a2 := pkl_lt40 h'
  rw [fb_lN_inj (by omega) (by omega)]
  constructor
  · exact pkl_inj h.2 h'.2
  · intro q; rw [q]
theorem X_areAlike (hX : okX W Q nl ln (mLf ln mm) am spelled rows alike near asks letters words askCount) {b v w : Nat} (hb : b < 6) (hv : v < W) (hw : w < W) : fX7_areAlike n rows (nI v) (nI w) (nI b) = some (if rowS (mLf ln mm v) b = rowS (mLf ln mm w) b then 1 else 0) := by
  unfold fX7_areAlike
  rw [X_rowAt hX hb hv, X_rowAt hX hb hw, bd1_some, bd1_some]
  have e := pkl_eq (rowS_ok (hX.2.2.2.2.2.2.1 v hv).1 b) (rowS_ok (hX.2.2.2.2.2.2.1 w hw).1 b)
  by_cases q : rowS (mLf ln mm v) b = rowS (mLf ln mm w) b
  · rw [if_pos (by rw [lg0]; exact e.mpr q), if_pos q]
  · rw [if_neg (by rw [lg0]; exact fun z => q (e.mp z)), if_neg q]
theorem P_apart (hn : 1000 ≤ n) (hX : okX W Q nl ln (mLf ln mm) am spelled rows alike near asks letters words askCount) (hM : okMT W Q nl ln mm am mletters mwords wMany wLetters masks aWords) (a c : Int32) (ra rc : Nat → Int32) (x1 x2 x3 : Int32) :
    ∃ (r a' : Int32) (f : Nat → Int32) (c' : Int32) (g : Nat → Int32), fX8_apart n rows words x1 x2 x3 = some r ∧ fX9_apart n mletters mwords wMany wLetters a ra c rc x1 x2 x3 = some (r, a', f, c', g) := by
  have hW := hX.1
  have e1 : words = nI W := hX.2.2.2.2.1
  have e2 : mwords = nI W := hM.2.2.1
  unfold fX8_apart fX9_apart
  rw [e1, e2]
  rcases ixc x1 W with ⟨v, hv, rfl⟩ | h1
  · rw [fX7_isWord_y hv (by omega), fX9_isWord_y hv (by omega), bd1_some, bd1_some, if_neg i10, if_neg i10]
    rcases ixc x2 W with ⟨w, hw, rfl⟩ | h1
    · rw [fX7_isWord_y hw (by omega), fX9_isWord_y hw (by omega), bd1_some, bd1_some, if_neg i10, if_neg i10]
      rcases ixc x3 6 with ⟨b, hb, rfl⟩ | h1
      · obtain ⟨a', f, c', g, h⟩ := M_areOne hn hb hM.1 hv hw a c ra rc
        rw [fX8_isBlur_y hb, fX9_isBlur_y hb, bd1_some, bd1_some, if_neg i10, if_neg i10, X_areAlike hX hb hv hw, h, bd1_some, bd5_some]
        by_cases q : rowS (mLf ln mm v) b = rowS (mLf ln mm w) b
        · rw [if_pos q, if_pos (show rowS (spc (mm v) (ln v)) b = rowS (spc (mm w) (ln w)) b from q), if_neg i10, if_neg i10]
          exact ⟨_, _, _, _, _, rfl, rfl⟩
        · rw [if_neg q, if_neg (show ¬ rowS (spc (mm v) (ln v)) b = rowS (spc (mm w) (ln w)) b from q), if_pos rfl, if_pos rfl]
          exact ⟨_, _, _, _, _, rfl, rfl⟩
      · rw [fX8_isBlur_n h1, fX9_isBlur_n h1, bd1_some, bd1_some, if_pos rfl, if_pos rfl]
        exact ⟨_, _, _, _, _, rfl, rfl⟩
    · rw [fX7_isWord_n (by omega) h1, fX9_isWord_n (by omega) h1, bd1_some, bd1_some, if_pos rfl, if_pos rfl]
      exact ⟨_, _, _, _, _, rfl, rfl⟩
  · rw [fX7_isWord_n (by omega) h1, fX9_isWord_n (by omega) h1, bd1_some, bd1_some, if_pos rfl, if_pos rfl]
    exact ⟨_, _, _, _, _, rfl, rfl⟩
theorem P_until (hn : 1000 ≤ n) (hX : okX W Q nl ln (mLf ln mm) am spelled rows alike near asks letters words askCount) (hM : okMT W Q nl ln mm am mletters mwords wMany wLetters masks aWords) (a c : Int32) (ra rc : Nat → Int32) (x1 x2 : Int32) :
    ∃ (r a' : Int32) (f : Nat → Int32) (c' : Int32) (g : Nat → Int32), fX8_until n rows words x1 x2 = some r ∧ fX9_until n mletters mwords wMany wLetters a ra c rc x1 x2 = some (r, a', f, c', g) := by
  have hW := hX.1
  have e1 : words = nI W := hX.2.2.2.2.1
  have e2 : mwords = nI W := hM.2.2.1
  unfold fX8_until fX9_until
  rw [e1, e2]
  rcases ixc x1 W with ⟨v, hv, rfl⟩ | h1
  · rw [fX7_isWord_y hv (by omega), fX9_isWord_y hv (by omega), bd1_some, bd1_some, if_neg i10, if_neg i10]
    rcases ixc x2 W with ⟨w, hw, rfl⟩ | h1
    · rw [fX7_isWord_y hw (by omega), fX9_isWord_y hw (by omega), bd1_some, bd1_some, if_neg i10, if_neg i10]
      have g : ∀ (d k k' b : Nat) (a c : Int32) (ra rc : Nat → Int32), b + d = 6 → d < k → d < k' → ∃ (r a' : Int32) (f : Nat → Int32) (c' : Int32) (g : Nat → Int32), fX8_until_p26 n rows (nI v) (nI w) k (nI b) = some r ∧ fX9_until_p20 n mletters wMany wLetters (nI v) (nI w) k' a ra c rc (nI b) = some (r, a', f, c', g) := by
        intro d
        induction d with
        | zero =>
          intro k k' b a c ra rc hb hk hk'
          obtain ⟨k, rfl⟩ : ∃ q, k = q + 1 := ⟨k - 1, by omega⟩
          obtain ⟨k', rfl⟩ : ∃ q, k' = q + 1 := ⟨k' - 1, by omega⟩
          rw [fX8_until_p26, fX9_until_p20, show b = 6 from by omega, if_pos (by decide), if_pos (by decide), if_neg (by decide)]
          exact ⟨_, _, _, _, _, rfl, rfl⟩
        | succ d ih =>
          intro k k' b a c ra rc hb hk hk'
          obtain ⟨k, rfl⟩ : ∃ q, k = q + 1 := ⟨k - 1, by omega⟩
          obtain ⟨k', rfl⟩ : ∃ q, k' = q + 1 := ⟨k' - 1, by omega⟩
          obtain ⟨a', f, c', g, h⟩ := M_areOne hn (b := b) (by omega) hM.1 hv hw a c ra rc
          rw [fX8_until_p26, fX9_until_p20, show (6 : Int32) = nI 6 from rfl, show (5 : Int32) = nI 5 from rfl, if_neg (nI_ge (by omega) (by decide)), if_neg (nI_nlt (by omega) (by omega)), X_areAlike hX (by omega) hv hw, h, bd1_some, bd5_some]
          by_cases q : rowS (mLf ln mm v) b = rowS (mLf ln mm w) b
          · rw [if_pos q, if_pos (show rowS (spc (mm v) (ln v)) b = rowS (spc (mm w) (ln w)) b from q), if_neg i10, if_neg i10, if_pos (nI_le (by omega) (by decide))]
            exact ⟨_, _, _, _, _, rfl, rfl⟩
          · rw [if_neg q, if_neg (show ¬ rowS (spc (mm v) (ln v)) b = rowS (spc (mm w) (ln w)) b from q), if_pos rfl, if_pos rfl, nI_1]
            exact ih k k' (b + 1) a' c' f g (by omega) (by omega) (by omega)
      exact g 6 n n 0 a c ra rc (by omega) (by omega) (by omega)
    · rw [fX7_isWord_n (by omega) h1, fX9_isWord_n (by omega) h1, bd1_some, bd1_some, if_pos rfl, if_pos rfl]
      exact ⟨_, _, _, _, _, rfl, rfl⟩
  · rw [fX7_isWord_n (by omega) h1, fX9_isWord_n (by omega) h1, bd1_some, bd1_some, if_pos rfl, if_pos rfl]
    exact ⟨_, _, _, _, _, rfl, rfl⟩
theorem P_blurred (hn : 1000 ≤ n) (hX : okX W Q nl ln (mLf ln mm) am spelled rows alike near asks letters words askCount) (hM : okMT W Q nl ln mm am mletters mwords wMany wLetters masks aWords) (a : Int32) (ra : Nat → Int32) (x1 x2 x3 : Int32) :
    ∃ (r a' : Int32) (f : Nat → Int32), fX8_blurred n rows words x1 x2 x3 = some r ∧ fX9_blurred n mletters mwords wMany wLetters a ra x1 x2 x3 = some (r, a', f) := by
  have hW := hX.1
  have e1 : words = nI W := hX.2.2.2.2.1
  have e2 : mwords = nI W := hM.2.2.1
  unfold fX8_blurred fX9_blurred
  rw [e1, e2]
  rcases ixc x1 W with ⟨w, hw, rfl⟩ | h1
  · rw [fX7_isWord_y hw (by omega), fX9_isWord_y hw (by omega), bd1_some, bd1_some, if_neg i10, if_neg i10]
    rcases ixc x2 6 with ⟨b, hb, rfl⟩ | h1
    · rw [fX8_isBlur_y hb, fX9_isBlur_y hb, bd1_some, bd1_some, if_neg i10, if_neg i10]
      by_cases q : 0 ≤ x3
      · obtain ⟨i, hi, rfl⟩ := nI_of (x := x3) (fun z => by rw [lt0_iff] at z; rw [le0_iff] at q; omega)
        obtain ⟨f, f1, f2⟩ := M_rowOf hn hb hM.1 hw ra
        have hL := rowS_ok (okM_L hM.1 hw) b
        have h8 := hL.1
        rw [if_pos q, if_pos q, X_rowAt hX hb hw, f1, bd1_some, bd2_some, show rowS (mLf ln mm w) b = rowS (spc (mm w) (ln w)) b from rfl, X_markAt hL (by omega), bd1_some]
        by_cases z : i < (rowS (spc (mm w) (ln w)) b).length
        · rw [if_neg (nI_ge z (by omega)), ar_nI (by omega) (by decide), f2 i z, mkv_in z]
          exact ⟨_, _, _, rfl, rfl⟩
        · rw [if_pos (nI_le (by omega) (by omega)), mkv_out (by omega)]
          exact ⟨_, _, _, rfl, rfl⟩
      · rw [if_neg q, if_neg q]
        exact ⟨_, _, _, rfl, rfl⟩
    · rw [fX8_isBlur_n h1, fX9_isBlur_n h1, bd1_some, bd1_some, if_pos rfl, if_pos rfl]
      exact ⟨_, _, _, rfl, rfl⟩
  · rw [fX7_isWord_n (by omega) h1, fX9_isWord_n (by omega) h1, bd1_some, bd1_some, if_pos rfl, if_pos rfl]
    exact ⟨_, _, _, rfl, rfl⟩
theorem P_ask (hn : 1000 ≤ n) (hX : okX W Q nl ln (mLf ln mm) am spelled rows alike near asks letters words askCount) (hM : okMT W Q nl ln mm am mletters mwords wMany wLetters masks aWords) (x1 x2 : Int32) :
    ∃ r : Int32, fX8_ask n asks askCount x1 x2 = some r ∧ fX9_ask n masks aWords x1 x2 = some r := by
  have hQ := hX.2.1
  have e1 : askCount = nI Q := hX.2.2.2.2.2.1
  have e2 : masks = nI Q := hM.2.2.2.1
  unfold fX8_ask fX9_ask
  rw [e1, e2]
  rcases ixc x1 Q with ⟨a, ha, rfl⟩ | h1
  · rw [fX7_isAsk_y ha (by omega), fX9_isAsk_y ha (by omega), bd1_some, bd1_some, if_neg i10, if_neg i10]
    obtain ⟨a1, a2⟩ := hX.2.2.2.2.2.2.2 a ha
    obtain ⟨-, a3⟩ := hM.2.2.2.2.1 a ha
    have h16 := pow16 hX.1 a1
    simp only [ar_nI (show a < 6 by omega) (by decide : 6 < 2147483648), a2, a3, J_bitCount h16, M_bits hn h16, bd1_some]
    rcases ixc x2 2 with ⟨j, hj, rfl⟩ | h2
    · rw [M_1_y hj, bd1_some, if_neg i10, if_neg (nI_pos (by omega)), if_pos (by rw [i1nI]; exact nI_le (by omega) (by decide))]
      by_cases z : nI j = 0
      · rw [if_pos z]
        exact ⟨_, rfl, rfl⟩
      · rw [if_neg z]
        exact ⟨_, rfl, rfl⟩
    · rw [M_1_n h2, bd1_some, if_pos rfl]
      refine ⟨-1, ?_, rfl⟩
      unfold inR at h2
      by_cases q : x2 < 0
      · rw [if_pos q]
      · rw [if_neg q, if_neg]
        rw [i1nI, lenI_iff (by decide)]
        rw [lt0_iff] at q
        omega
  · rw [fX7_isAsk_n (by omega) h1, fX9_isAsk_n (by omega) h1, bd1_some, bd1_some, if_pos rfl, if_pos rfl]
    exact ⟨_, rfl, rfl⟩
/-- in how many asks -/
def inA (am : Nat → Nat) (w r : Nat) : Nat := fb_ct (fun a => (am a).testBit w) r
theorem P_word (hn : 1000 ≤ n) (hX : okX W Q nl ln (mLf ln mm) am spelled rows alike near asks letters words askCount) (hM : okMT W Q nl ln mm am mletters mwords wMany wLetters masks aWords) (a : Int32) (ra : Nat → Int32) (x1 x2 : Int32) :
    ∃ (r a' : Int32) (f : Nat → Int32), fX8_word n spelled rows asks words askCount x1 x2 = some r ∧ fX9_word n mletters mwords wMany wLetters masks aWords a ra x1 x2 = some (r, a', f) := by
  have hW := hX.1
  have hQ := hX.2.1
  have e1 : words = nI W := hX.2.2.2.2.1
  have e2 : mwords = nI W := hM.2.2.1
  have e3 : askCount = nI Q := hX.2.2.2.2.2.1
  have e4 : masks = nI Q := hM.2.2.2.1
  unfold fX8_word fX9_word
  rw [e1, e2]
  rcases ixc x1 W with ⟨w, hw, rfl⟩ | h1
  · rw [fX7_isWord_y hw (by omega), fX9_isWord_y hw (by omega), bd1_some, bd1_some, if_neg i10, if_neg i10]
    obtain ⟨hl, hn8, hs, -, hrow⟩ := hX.2.2.2.2.2.2.1 w hw
    have hL : okL (spc (mm w) (ln w)) := hl
    have hr0 : rows w = lN (pkl (spc (mm w) (ln w))) := by
      have := (hrow 0 (by decide)).1
      rw [Nat.zero_mul, Nat.zero_add, rowS_0 hl] at this
      exact this
    obtain ⟨f, f1, f2⟩ := M_rowOf hn (b := 0) (by decide) hM.1 hw ra
    rw [rowS_0 hL] at f1 f2
    have f1' : fX9_rowOf n mletters wMany wLetters ra (nI w) 0 = _ := f1
    generalize hl0 : spc (mm w) (ln w) = l at *
    have h8 := hL.1
    have hwm := (hM.1.2 w hw).2.1
    have hAW : fX7_asksWith n asks (nI Q) (nI w) = some (nI (inA am w Q)) := by
      unfold fX7_asksWith
      have g : ∀ (d k r : Nat), r + d = Q → d < k → fX7_asksWith_p4 n asks (nI Q) (nI w) k (nI (inA am w r)) (nI r) = some (nI (inA am w Q)) := by
        intro d
        induction d with
        | zero =>
          intro k r hr hk
          obtain ⟨k, rfl⟩ : ∃ q, k = q + 1 := ⟨k - 1, by omega⟩
          rw [fX7_asksWith_p4, if_pos (nI_le (by omega) (by omega)), show r = Q from by omega]
        | succ d ih =>
          intro k r hr hk
          obtain ⟨k, rfl⟩ : ∃ q, k = q + 1 := ⟨k - 1, by omega⟩
          obtain ⟨b1, b2⟩ := hX.2.2.2.2.2.2.2 r (by omega)
          have h16 := pow16 hW b1
          have hi := ih k (r + 1) (by omega) (by omega)
          unfold inA at hi
          rw [fb_ct_succ] at hi
          rw [fX7_asksWith_p4, if_neg (nI_ge (by omega) (by omega)), ar_nI (by omega) (by decide), b2, X_isIn (by omega) (by omega), bd1_some]
          by_cases q : (am r).testBit w = true
          · rw [if_pos q] at hi
            rw [if_pos q, if_neg i10, nI_1, nI_1]
            exact hi
          · rw [if_neg q] at hi
            rw [if_neg q, if_pos rfl, nI_1]
            exact hi
      exact g Q n 0 (by omega) (by omega)
    have p99 : ∀ (x3 : Int32) (d k r : Nat), r + d = Q → d < k → fX9_word_p99 n wMany (nI Q) aWords (nI l.length) f (nI w) x2 x3 k (nI (inA am w r)) (nI r) = fX9_word_p130 n wMany (nI l.length) f (nI w) x2 x3 (nI (inA am w Q)) := by
      intro x3 d
      induction d with
      | zero =>
        intro k r hr hk
        obtain ⟨k, rfl⟩ : ∃ q, k = q + 1 := ⟨k - 1, by omega⟩
        rw [fX9_word_p99, if_pos (nI_le (by omega) (by omega)), show r = Q from by omega]
      | succ d ih =>
        intro k r hr hk
        obtain ⟨k, rfl⟩ : ∃ q, k = q + 1 := ⟨k - 1, by omega⟩
        obtain ⟨b1, b2⟩ := hM.2.2.2.2.1 r (by omega)
        have h16 := pow16 hW b1
        have hi := ih k (r + 1) (by omega) (by omega)
        unfold inA at hi
        rw [fb_ct_succ] at hi
        rw [fX9_word_p99, if_neg (nI_ge (by omega) (by omega)), ar_nI (by omega) (by decide), b2, nm, bitv (by omega) (by omega), nI_add, nI_1]
        exact hi
    have p58 : ∀ (d k r : Nat), r + d = l.length → d < k → fX9_word_p58 n wMany (nI Q) aWords (nI l.length) f (nI w) x2 k (nI (hgt l r)) (nI r) = fX9_word_p130 n wMany (nI l.length) f (nI w) x2 (nI (hgt l l.length)) (nI (inA am w Q)) := by
      intro d
      induction d with
      | zero =>
        intro k r hr hk
        obtain ⟨k, rfl⟩ : ∃ q, k = q + 1 := ⟨k - 1, by omega⟩
        rw [fX9_word_p58, if_pos (nI_le (by omega) (by omega)), show r = l.length from by omega]
        exact p99 _ Q n 0 (by omega) (by omega)
      | succ d ih =>
        intro k r hr hk
        obtain ⟨k, rfl⟩ : ∃ q, k = q + 1 := ⟨k - 1, by omega⟩
        have hg := getD_le hL r
        have hi := ih k (r + 1) (by omega) (by omega)
        unfold hgt at hi
        rw [fb_ct_succ] at hi
        rw [fX9_word_p58, if_neg (nI_ge (by omega) (by omega)), ar_nI (by omega) (by decide), f2 r (by omega), show (16 : Int32) = nI 16 from rfl]
        by_cases q : 16 ≤ l.getD r 0
        · rw [if_pos (nI_le q (by omega)), nm, i0nI, nI_add, nI_1]
          rw [if_neg (by rw [decide_eq_true_eq]; omega)] at hi
          exact hi
        · rw [if_neg (nI_ge (by omega) (by omega)), nm, nI_1, nI_1]
          rw [if_pos (by rw [decide_eq_true_eq]; omega)] at hi
          exact hi
    have p58' : fX9_word_p58 n wMany (nI Q) aWords (nI l.length) f (nI w) x2 n 0 0 = _ := p58 l.length n 0 (by omega) (by omega)
    rw [f1', bd2_some, e3, e4, hAW, p58']
    simp only [ar_nI (show w < 16 by omega) (by decide : 16 < 2147483648), ar_nI (show w < 96 by omega) (by decide : 96 < 2147483648), hr0, hs, X_length hn hL, X_heights hn hL, bd1_some]
    rw [M_in, i32_64, i32_64, show (10 : Int64).toInt = 10 from rfl, show (9 : Int32) = nI 9 from rfl, nI_add, nI_toInt (by omega)]
    by_cases c : 10 ≤ x2.toInt ∧ x2.toInt ≤ (9 + l.length : Nat)
    · obtain ⟨j, hj, rfl⟩ := inR_nI (x := x2) (N := 10 + l.length) ⟨by omega, by omega⟩
      rw [if_pos c, bd1_some, if_neg i10]
      rw [nI_toInt (by omega)] at c
      rw [ if_neg (nI_ne0 (by omega) (by omega)), if_neg (by rw [i1nI, nI_eq (by omega) (by decide)]; omega), if_neg (by rw [show (2 : Int32) = nI 2 from rfl, nI_eq (by omega) (by decide)]; omega), if_neg (by rw [show (3 : Int32) = nI 3 from rfl, nI_eq (by omega) (by decide)]; omega), show (10 : Int32) = nI 10 from rfl, if_pos (nI_le (by omega) (by omega)), pk_sub (by omega), X_markAt hL (by omega), bd1_some, ar_nI (by omega) (by decide), f2 _ (by omega), mkv_in (by omega)]
      have hg := getD_le hL (j - 10)
      unfold fX8_orBad
      rw [if_neg (ne_m4 (by omega)), bd1_some]
      exact ⟨_, _, _, rfl, rfl⟩
    · rw [if_neg c, bd1_some, if_pos rfl]
      unfold fX9_word_p130
      rw [ar_nI (by omega) (by decide), hwm]
      by_cases c0 : x2 = 0
      · rw [if_pos c0, if_pos c0]
        exact ⟨_, _, _, rfl, rfl⟩
      · rw [if_neg c0, if_neg c0]
        by_cases c1 : x2 = 1
        · rw [if_pos c1, if_pos c1]
          exact ⟨_, _, _, rfl, rfl⟩
        · rw [if_neg c1, if_neg c1]
          by_cases c2 : x2 = 2
          · rw [if_pos c2, if_pos c2]
            exact ⟨_, _, _, rfl, rfl⟩
          · rw [if_neg c2, if_neg c2]
            by_cases c3 : x2 = 3
            · rw [if_pos c3, if_pos c3]
              exact ⟨_, _, _, rfl, rfl⟩
            · rw [if_neg c3, if_neg c3, show (10 : Int32) = nI 10 from rfl]
              by_cases c4 : nI 10 ≤ x2
              · have c4' := (nIle_iff (by decide) x2).mp c4
                obtain ⟨j, hj, rfl⟩ := nI_of (x := x2) (fun z => by rw [lt0_iff] at z; omega)
                rw [nI_toInt (by omega)] at c c4'
                rw [if_pos c4, pk_sub (by omega), X_markAt hL (by omega), bd1_some, mkv_out (by omega)]
                exact ⟨-1, _, _, rfl, rfl⟩
              · rw [if_neg c4]
                exact ⟨-1, _, _, rfl, rfl⟩
  · rw [fX7_isWord_n (by omega) h1, fX9_isWord_n (by omega) h1, bd1_some, bd1_some, if_pos rfl, if_pos rfl]
    exact ⟨_, _, _, rfl, rfl⟩
end WD

/-! the BOOK: call, lie, callOf -/
section BK
def RB (C P Q W : Nat) (am tm fr ak wd ff lf : Nat → Nat) (bt bf ba bw bff bl : Nat → Int32) (bs mcs : Int32) (cd ch cf ca cw co cl : Nat → Int32) : Prop :=
  C ≤ 30 ∧ bs = nI C ∧ mcs = nI C ∧ (∀ c, c < C → tm c < 2400 ∧ fr c < P ∧ ak c < Q ∧ wd c < W ∧ (am (ak c)).testBit (wd c) = true ∧ ff c ≤ c ∧ ff (ff c) = ff c ∧ fr (ff c) = fr c ∧ ak (ff c) = ak c ∧ wd (ff c) = wd c ∧ lf c ≤ 1) ∧ (∀ c, c < C → bt c = nI (tm c) ∧ bf c = nI (fr c) ∧ ba c = nI (ak c) ∧ bw c = nI (wd c) ∧ bff c = nI (ff c) ∧ bl c = nI (lf c)) ∧ (∀ c, c < C → cd c = nI (tm c / 24) ∧ ch c = nI (tm c % 24) ∧ cf c = nI (fr c) ∧ ca c = nI (ak c) ∧ cw c = nI (wd c) ∧ co c = (if ff c = c then -4 else nI (ff c)) ∧ cl c = nI (lf c)) ∧ ∀ c, C ≤ c → c < 30 → bl c = 0
theorem mod24 {t : Nat} (h : t < 10000) : nI t - nI t / (24 : Int32) * (24 : Int32) = nI (t % 24) := by
  rw [show (24 : Int32) = nI 24 from rfl, pk_div (by omega) (by decide) (by decide), pk_mul, pk_sub (by omega)]
  congr 1
  omega
theorem div24 {t : Nat} (h : t < 10000) : nI t / (24 : Int32) = nI (t / 24) := by
  rw [show (24 : Int32) = nI 24 from rfl, pk_div (by omega) (by decide) (by decide)]
variable {n C P Q W G nl : Nat} {am tm fr ak wd ff lf : Nat → Nat} {bt bf ba bw bff bl : Nat → Int32} {bs mcs : Int32} {cd ch cf ca cw co cl : Nat → Int32}
variable {X Y Z RX RH : Nat → Nat} {xs ys hs rx rh mxs mys mhs mrx mrh sl ss sc ml ms mc : Nat → Int32} {p g mp mg : Int32} {wv : Nat → Int32}
variable {ln : Nat → Nat} {mm : Nat → Nat → Nat} {spelled alike near asks : Nat → Int32} {rows : Nat → Int64} {letters words askCount : Int32} {mletters wMany wLetters aWords : Nat → Int32} {mwords masks : Int32}
theorem co_m4 {c : Nat} (h : ff c < 1000) : (if ff c = c then (-4 : Int32) else nI (ff c)) = -4 ↔ ff c = c := by
  by_cases e : ff c = c
  · simp [e]
  · rw [if_neg e]
    exact ⟨fun z => absurd z (m4_nI (by omega)), fun z => absurd z e⟩
theorem X_isRepeat (hB : RB C P Q W am tm fr ak wd ff lf bt bf ba bw bff bl bs mcs cd ch cf ca cw co cl) {c : Nat} (hc : c < C) : fX0_isRepeat n bff (nI c) = some (if ff c = c then 0 else 1) := by
  have h1 := hB.1
  have h2 := (hB.2.2.2.1 c hc).2.2.2.2.2.1
  have h3 := (hB.2.2.2.2.1 c hc).2.2.2.2.1
  unfold fX0_isRepeat
  rw [ar_nI (by omega) (by decide), h3]
  by_cases e : ff c = c
  · rw [if_pos (by rw [e]), if_pos e]
  · rw [if_neg (by rw [nI_eq (by omega) (by omega)]; exact e), if_neg e]
theorem X_isFalse (hB : RB C P Q W am tm fr ak wd ff lf bt bf ba bw bff bl bs mcs cd ch cf ca cw co cl) {c : Nat} (hc : c < C) : fX0_isFalse n bff bl (nI c) = some (nI (lf (ff c))) := by
  have h1 := hB.1
  have h2 := (hB.2.2.2.1 c hc).2.2.2.2.2.1
  have h3 := (hB.2.2.2.2.1 c hc).2.2.2.2.1
  have h4 := (hB.2.2.2.2.1 (ff c) (by omega)).2.2.2.2.2
  have h5 := (hB.2.2.2.1 (ff c) (by omega)).2.2.2.2.2.2.2.2.2.2
  unfold fX0_isFalse
  rw [ar_nI (by omega) (by decide), h3, ar_nI (by omega) (by decide), h4]
  have : lf (ff c) = 0 ∨ lf (ff c) = 1 := by omega
  rcases this with e | e
  · rw [e]; exact rb_0
  · rw [e]; exact rb_1
theorem M_firstOf (hB : RB C P Q W am tm fr ak wd ff lf bt bf ba bw bff bl bs mcs cd ch cf ca cw co cl) {c : Nat} (hc : c < C) : fX9_firstOf n co (nI c) = some (nI (ff c)) := by
  have h1 := hB.1
  have h2 := (hB.2.2.2.1 c hc).2.2.2.2.2.1
  have h3 := (hB.2.2.2.2.2.1 c hc).2.2.2.2.2.1
  unfold fX9_firstOf
  rw [ar_nI (by omega) (by decide), h3]
  by_cases e : ff c = c
  · rw [if_pos ((co_m4 (by omega)).mpr e), e]
  · rw [if_neg (fun z => e ((co_m4 (by omega)).mp z)), ar_nI (by omega) (by decide), h3, if_neg e]
theorem M_isFalse (hB : RB C P Q W am tm fr ak wd ff lf bt bf ba bw bff bl bs mcs cd ch cf ca cw co cl) {c : Nat} (hc : c < C) : fX9_isFalse n co cl (nI c) = some (nI (lf (ff c))) := by
  have h1 := hB.1
  have h2 := (hB.2.2.2.1 c hc).2.2.2.2.2.1
  have h4 := (hB.2.2.2.2.2.1 (ff c) (by omega)).2.2.2.2.2.2
  have h5 := (hB.2.2.2.1 (ff c) (by omega)).2.2.2.2.2.2.2.2.2.2
  unfold fX9_isFalse
  rw [M_firstOf hB hc, bd1_some, ar_nI (by omega) (by decide), h4]
  have : lf (ff c) = 0 ∨ lf (ff c) = 1 := by omega
  rcases this with e | e
  · rw [e]; exact rb_0
  · rw [e]; exact rb_1
theorem nar01 {x : Int32} (h : x = 0 ∨ x = 1) : ∃ v, v ≤ 1 ∧ vp_nar .boolean x = nI v := by
  rcases h with rfl | rfl
  · exact ⟨0, by omega, by decide⟩
  · exact ⟨1, by omega, by decide⟩
theorem P_lie (hB : RB C P Q W am tm fr ak wd ff lf bt bf ba bw bff bl bs mcs cd ch cf ca cw co cl) (x1 : Int32) {x2 : Int32} (hx : x2 = 0 ∨ x2 = 1) :
    ∃ (r : Int32) (f f' : Nat → Int32) (lf' : Nat → Nat), fX8_lie n bff bl bs x1 x2 = some (r, f) ∧ fX9_lie n mcs co cl x1 x2 = some (r, f') ∧ RB C P Q W am tm fr ak wd ff lf' bt bf ba bw bff f bs mcs cd ch cf ca cw co f' := by
  have hB0 := hB
  obtain ⟨h1, h2, h3, h4, h5, h6, h7⟩ := hB
  unfold fX8_lie fX9_lie
  rw [h2, h3]
  rcases ixc x1 C with ⟨c, hc, rfl⟩ | q
  · rw [fX0_isCall_y hc (by omega), fX9_isCall_y hc (by omega), bd1_some, bd1_some, if_neg i10, if_neg i10, X_isRepeat hB0 hc, bd1_some, ar_nI (by omega) (by decide), (h6 c hc).2.2.2.2.2.1]
    have l1 := (h4 c hc).2.2.2.2.2.1
    by_cases e : ff c = c
    · rw [if_pos (show (if ff c = c then (0 : Int32) else 1) = 0 from if_pos e), if_pos (show (if ff c = c then (-4 : Int32) else nI (ff c)) = -4 from if_pos e), X_isFalse hB0 hc, bd1_some, ar_nI (by omega) (by decide), (h6 c hc).2.2.2.2.2.2, e]
      obtain ⟨v, v1, v2⟩ := nar01 hx
      have l2 := (h4 c hc).2.2.2.2.2.2.2.2.2.2
      have key : RB C P Q W am tm fr ak wd ff (un lf c v) bt bf ba bw bff (upd bl c (nI v)) (nI C) (nI C) cd ch cf ca cw co (upd cl c (nI v)) := by
        refine ⟨h1, rfl, rfl, fun d hd => ?_, fun d hd => ?_, fun d hd => ?_, fun d h1 h2 => ?_⟩
        · obtain ⟨a1, a2, a3, a4, a5, a6, a7, a8, a9, a10, a11⟩ := h4 d hd
          refine ⟨a1, a2, a3, a4, a5, a6, a7, a8, a9, a10, ?_⟩
          by_cases z : d = c
          · subst z; rw [un_s]; exact v1
          · rw [un_n z]; exact a11
        · obtain ⟨a1, a2, a3, a4, a5, a6⟩ := h5 d hd
          refine ⟨a1, a2, a3, a4, a5, ?_⟩
          by_cases z : d = c
          · subst z; rw [un_s, pk_us]
          · rw [un_n z, pk_un (by omega)]; exact a6
        · obtain ⟨a1, a2, a3, a4, a5, a6, a7⟩ := h6 d hd
          refine ⟨a1, a2, a3, a4, a5, a6, ?_⟩
          by_cases z : d = c
          · subst z; rw [un_s, pk_us]
          · rw [un_n z, pk_un (by omega)]; exact a7
        · rw [pk_un (by omega)]
          exact h7 d h1 h2
      by_cases z : nI (lf c) = 0
      · rw [if_pos z, if_pos z, aw_nI (by omega) (by decide), aw_nI (by omega) (by decide), v2]
        exact ⟨_, _, _, _, rfl, rfl, key⟩
      · rw [if_neg z, if_neg z, aw_nI (by omega) (by decide), aw_nI (by omega) (by decide), v2]
        exact ⟨_, _, _, _, rfl, rfl, key⟩
    · rw [if_neg (show ¬ (if ff c = c then (0 : Int32) else 1) = 0 from by rw [if_neg e]; decide), if_neg (show ¬ (if ff c = c then (-4 : Int32) else nI (ff c)) = -4 from fun z => e ((co_m4 (by omega)).mp z))]
      exact ⟨_, _, _, lf, rfl, rfl, h1, rfl, rfl, h4, h5, h6, h7⟩
  · rw [fX0_isCall_n (by omega) q, fX9_isCall_n (by omega) q, bd1_some, bd1_some, if_pos rfl, if_pos rfl]
    exact ⟨_, _, _, lf, rfl, rfl, h1, rfl, rfl, h4, h5, h6, h7⟩
theorem P_repeat (hB : RB C P Q W am tm fr ak wd ff lf bt bf ba bw bff bl bs mcs cd ch cf ca cw co cl) (hP : P ≤ 10) (hQ : Q ≤ 6) (hW : W ≤ 16) (x6 : Int32) {f a w : Nat} (hf : f < P) (ha : a < Q) (hw : w < W) :
    (∃ j, j < C ∧ x6 = nI j ∧ ff j = j ∧ fr j = f ∧ ak j = a ∧ wd j = w ∧ fX0_mayRepeat n bf ba bw bff bs x6 (nI f) (nI a) (nI w) = some 1 ∧ fX9_isRepeatable n mcs cf ca cw co x6 (nI f) (nI a) (nI w) = some 1) ∨ (fX0_mayRepeat n bf ba bw bff bs x6 (nI f) (nI a) (nI w) = some 0 ∧ fX9_isRepeatable n mcs cf ca cw co x6 (nI f) (nI a) (nI w) = some 0) := by
  have hB0 := hB
  obtain ⟨h1, h2, h3, h4, h5, h6, h7⟩ := hB
  unfold fX0_mayRepeat fX9_isRepeatable
  rw [h2, h3]
  rcases ixc x6 C with ⟨c, hc, rfl⟩ | q
  · obtain ⟨a1, a2, a3, a4, a5, a6, a7, a8, a9, a10, a11⟩ := h4 c hc
    obtain ⟨b1, b2, b3, b4, b5, b6⟩ := h5 c hc
    obtain ⟨c1, c2, c3, c4, c5, c6, c7⟩ := h6 c hc
    rw [fX0_isCall_y hc (by omega), fX9_isCall_y hc (by omega), bd1_some, bd1_some, if_neg i10, if_neg i10, X_isRepeat hB0 hc, bd1_some, ar_nI (f := co) (by omega) (by decide), c6]
    by_cases e : ff c = c
    · rw [if_pos (show (if ff c = c then (0 : Int32) else 1) = 0 from if_pos e), if_pos (show (if ff c = c then (-4 : Int32) else nI (ff c)) = -4 from if_pos e), ar_nI (f := bf) (by omega) (by decide), ar_nI (f := cf) (by omega) (by decide), b2, c3]
      by_cases e2 : fr c = f
      · rw [if_pos (by rw [e2]), if_pos (by rw [e2]), ar_nI (f := ba) (by omega) (by decide), ar_nI (f := ca) (by omega) (by decide), b3, c4]
        by_cases e3 : ak c = a
        · rw [if_pos (by rw [e3]), if_pos (by rw [e3]), ar_nI (f := bw) (by omega) (by decide), ar_nI (f := cw) (by omega) (by decide), b4, c5]
          by_cases e4 : wd c = w
          · rw [if_pos (by rw [e4])]
            exact Or.inl ⟨c, hc, rfl, e, e2, e3, e4, rfl, rfl⟩
          · have : ¬ nI (wd c) = nI w := by rw [nI_eq (by omega) (by omega)]; exact e4
            rw [if_neg this]
            exact Or.inr ⟨rfl, rfl⟩
        · have : ¬ nI (ak c) = nI a := by rw [nI_eq (by omega) (by omega)]; exact e3
          rw [if_neg this, if_neg this]
          exact Or.inr ⟨rfl, rfl⟩
      · have : ¬ nI (fr c) = nI f := by rw [nI_eq (by omega) (by omega)]; exact e2
        rw [if_neg this, if_neg this]
        exact Or.inr ⟨rfl, rfl⟩
    · rw [if_neg (show ¬ (if ff c = c then (0 : Int32) else 1) = 0 from by rw [if_neg e]; decide), if_neg (show ¬ (if ff c = c then (-4 : Int32) else nI (ff c)) = -4 from fun z => e ((co_m4 (by omega)).mp z))]
      exact Or.inr ⟨rfl, rfl⟩
  · rw [fX0_isCall_n (by omega) q, fX9_isCall_n (by omega) q, bd1_some, bd1_some, if_pos rfl, if_pos rfl]
    exact Or.inr ⟨rfl, rfl⟩
theorem P_call (hL : Rld P G X Y Z RX RH xs ys hs rx rh p g) (hLM : Rld P G X Y Z RX RH mxs mys mhs mrx mrh mp mg) (hX : okX W Q nl ln (mLf ln mm) am spelled rows alike near asks letters words askCount) (hM : okMT W Q nl ln mm am mletters mwords wMany wLetters masks aWords) (hB : RB C P Q W am tm fr ak wd ff lf bt bf ba bw bff bl bs mcs cd ch cf ca cw co cl) (x1 x2 x3 x4 x5 x6 : Int32) :
    ∃ (r : Int32) (C' : Nat) (tm' fr' ak' wd' ff' lf' : Nat → Nat) (bt' bf' ba' bw' bff' : Nat → Int32) (bs' mcs' : Int32) (cd' ch' cf' ca' cw' co' cl' : Nat → Int32), fX8_call n p bt bf ba bw bff bs asks words askCount x1 x2 x3 x4 x5 x6 = some (r, bt', bf', ba', bw', bff', bs') ∧ fX9_call n mwords masks aWords mp mcs cd ch cf ca cw co cl x1 x2 x3 x4 x5 x6 = some (r, mcs', cd', ch', cf', ca', cw', co', cl') ∧ RB C' P Q W am tm' fr' ak' wd' ff' lf' bt' bf' ba' bw' bff' bl bs' mcs' cd' ch' cf' ca' cw' co' cl' := by
  have hP := hL.1
  have hQ := hX.2.1
  have hW := hX.1
  have p1 : p = nI P := hL.2.2.1
  have p2 : mp = nI P := hLM.2.2.1
  have no : ∀ r : Int32, ∃ (r' : Int32) (C' : Nat) (tm' fr' ak' wd' ff' lf' : Nat → Nat) (bt' bf' ba' bw' bff' : Nat → Int32) (bs' mcs' : Int32) (cd' ch' cf' ca' cw' co' cl' : Nat → Int32), some (r, bt, bf, ba, bw, bff, bs) = some (r', bt', bf', ba', bw', bff', bs') ∧ some (r, mcs, cd, ch, cf, ca, cw, co, cl) = some (r', mcs', cd', ch', cf', ca', cw', co', cl') ∧ RB C' P Q W am tm' fr' ak' wd' ff' lf' bt' bf' ba' bw' bff' bl bs' mcs' cd' ch' cf' ca' cw' co' cl' := fun r => ⟨r, C, tm, fr, ak, wd, ff, lf, _, _, _, _, _, _, _, _, _, _, _, _, _, _, rfl, rfl, hB⟩
  unfold fX8_call fX9_call
  by_cases q1 : inR x1 100 ∧ inR x2 24
  · obtain ⟨⟨d, hd, rfl⟩, ⟨t, ht, rfl⟩⟩ := (⟨inR_nI q1.1, inR_nI q1.2⟩ : _ ∧ _)
    rw [fX8_isTime_y hd ht, fX9_isTime_y hd ht, bd1_some, bd1_some, if_neg i10, if_neg i10]
    rcases ixc x3 P with ⟨f, hf, rfl⟩ | q
    · rw [p1, p2, fX1_isPlace_y hf (by omega), fX9_isPlace_y hf (by omega), bd1_some, bd1_some, if_neg i10, if_neg i10]
      by_cases q3 : ∃ a w, a < Q ∧ w < W ∧ (am a).testBit w = true ∧ x4 = nI a ∧ x5 = nI w
      · obtain ⟨a, w, ha, hw, haw, rfl, rfl⟩ := q3
        rw [X_fits_y hX ha hw haw, M_fits_y hM ha hw haw, bd1_some, bd1_some, if_neg i10, if_neg i10]
        -- the end: writing, or a refusal
        have fin : ((x6 = -4) ∨ (∃ j, j < C ∧ x6 = nI j ∧ ff j = j ∧ fr j = f ∧ ak j = a ∧ wd j = w)) → ∃ (r : Int32) (C' : Nat) (tm' fr' ak' wd' ff' lf' : Nat → Nat) (bt' bf' ba' bw' bff' : Nat → Int32) (bs' mcs' : Int32) (cd' ch' cf' ca' cw' co' cl' : Nat → Int32), fX8_call_p61 n bt bf ba bw bff bs (nI d) (nI t) (nI f) (nI a) (nI w) x6 = some (r, bt', bf', ba', bw', bff', bs') ∧ fX9_call_p50 n mcs cd ch cf ca cw co cl (nI d) (nI t) (nI f) (nI a) (nI w) x6 = some (r, mcs', cd', ch', cf', ca', cw', co', cl') ∧ RB C' P Q W am tm' fr' ak' wd' ff' lf' bt' bf' ba' bw' bff' bl bs' mcs' cd' ch' cf' ca' cw' co' cl' := by
          intro h6x
          unfold fX8_call_p61 fX9_call_p50 fX8_timeOf
          have hB0 := hB
          obtain ⟨h1, h2, h3, h4, h5, h6, h7⟩ := hB
          rw [h2, h3] at no ⊢
          have tX : nI d * (24 : Int32) + nI t = nI (24 * d + t) := by rw [show (24 : Int32) = nI 24 from rfl, pk_mul, nI_add, Nat.mul_comm]
          have tM : (24 : Int32) * nI d + nI t = nI (24 * d + t) := by rw [show (24 : Int32) = nI 24 from rfl, pk_mul, nI_add]
          rw [bd1_some, tX]
          have write : ∃ (r : Int32) (C' : Nat) (tm' fr' ak' wd' ff' lf' : Nat → Nat) (bt' bf' ba' bw' bff' : Nat → Int32) (bs' mcs' : Int32) (cd' ch' cf' ca' cw' co' cl' : Nat → Int32), fX8_call_p103 n bt bf ba bw bff (nI C) (nI f) (nI a) (nI w) x6 (nI (24 * d + t)) = some (r, bt', bf', ba', bw', bff', bs') ∧ fX9_call_p95 n (nI C) cd ch cf ca cw co cl (nI d) (nI t) (nI f) (nI a) (nI w) x6 = some (r, mcs', cd', ch', cf', ca', cw', co', cl') ∧ RB C' P Q W am tm' fr' ak' wd' ff' lf' bt' bf' ba' bw' bff' bl bs' mcs' cd' ch' cf' ca' cw' co' cl' := by
            unfold fX8_call_p103 fX9_call_p95
            by_cases c30 : C < 30
            · rw [show (30 : Int32) = nI 30 from rfl, if_pos (nI_lt c30 (by omega)), if_neg (by rw [nI_eq (by omega) (by omega)]; omega)]
              unfold fX0_add
              rw [aw_nI c30 (by decide), aw_nI c30 (by decide), aw_nI c30 (by decide), aw_nI c30 (by decide), aw_nI c30 (by decide), aw_nI c30 (by decide), aw_nI c30 (by decide), aw_nI c30 (by decide), aw_nI c30 (by decide), aw_nI c30 (by decide), aw_nI c30 (by decide), aw_nI c30 (by decide), aw_nI c30 (by decide)]
              simp only [nm]
              rw [nI_1, nI_pred]
              -- the first of it
              have lie0 : vp_nar .boolean 0 = nI 0 := by decide
              have key : ∀ j, j ≤ C → (j < C → ff j = j ∧ fr j = f ∧ ak j = a ∧ wd j = w) → RB (C + 1) P Q W am (un tm C (24 * d + t)) (un fr C f) (un ak C a) (un wd C w) (un ff C j) (un lf C 0) (upd bt C (nI (24 * d + t))) (upd bf C (nI f)) (upd ba C (nI a)) (upd bw C (nI w)) (upd bff C (nI j)) bl (nI (C + 1)) (nI (C + 1)) (upd cd C (nI d)) (upd ch C (nI t)) (upd cf C (nI f)) (upd ca C (nI a)) (upd cw C (nI w)) (upd co C (if j = C then -4 else nI j)) (upd cl C (nI 0)) := by
                intro j hj hjj
                refine ⟨by omega, rfl, rfl, fun c hc => ?_, fun c hc => ?_, fun c hc => ?_, fun c hc1 hc2 => h7 c (by omega) hc2⟩
                · by_cases z : c = C
                  · subst z
                    rw [un_s, un_s, un_s, un_s, un_s, un_s]
                    by_cases y : j = c
                    · subst y
                      rw [un_s, un_s, un_s, un_s]
                      exact ⟨by omega, hf, ha, hw, haw, by omega, rfl, rfl, rfl, rfl, by omega⟩
                    · obtain ⟨y1, y2, y3, y4⟩ := hjj (by omega)
                      rw [un_n y, un_n y, un_n y, un_n y]
                      exact ⟨by omega, hf, ha, hw, haw, by omega, y1, y2, y3, y4, by omega⟩
                  · obtain ⟨a1, a2, a3, a4, a5, a6, a7, a8, a9, a10, a11⟩ := h4 c (by omega)
                    rw [un_n z, un_n z, un_n z, un_n z, un_n z, un_n z, un_n (show ff c ≠ C by omega), un_n (show ff c ≠ C by omega), un_n (show ff c ≠ C by omega), un_n (show ff c ≠ C by omega)]
                    exact ⟨a1, a2, a3, a4, a5, a6, a7, a8, a9, a10, a11⟩
                · by_cases z : c = C
                  · subst z
                    rw [un_s, un_s, un_s, un_s, un_s, un_s, pk_us, pk_us, pk_us, pk_us, pk_us]
                    exact ⟨rfl, rfl, rfl, rfl, rfl, h7 c (by omega) (by omega)⟩
                  · rw [un_n z, un_n z, un_n z, un_n z, un_n z, un_n z, pk_un (by omega), pk_un (by omega), pk_un (by omega), pk_un (by omega), pk_un (by omega)]
                    exact h5 c (by omega)
                · by_cases z : c = C
                  · subst z
                    rw [un_s, un_s, un_s, un_s, un_s, un_s, pk_us, pk_us, pk_us, pk_us, pk_us, pk_us, pk_us, show (24 * d + t) / 24 = d from by omega, show (24 * d + t) % 24 = t from by omega]
                    exact ⟨rfl, rfl, rfl, rfl, rfl, rfl, rfl⟩
                  · rw [un_n z, un_n z, un_n z, un_n z, un_n z, un_n z, pk_un (by omega), pk_un (by omega), pk_un (by omega), pk_un (by omega), pk_un (by omega), pk_un (by omega), pk_un (by omega)]
                    exact h6 c (by omega)
              rw [lie0]
              rcases h6x with rfl | ⟨j, hj, rfl, e1, e2, e3, e4⟩
              · have k := key C (by omega) (fun z => absurd z (by omega))
                rw [if_pos rfl] at k
                rw [if_pos rfl, bd6_some, nI_pred]
                exact ⟨_, _, _, _, _, _, _, _, _, _, _, _, _, _, _, _, _, _, _, _, _, _, rfl, rfl, k⟩
              · have k := key j (by omega) (fun _ => ⟨e1, e2, e3, e4⟩)
                rw [if_neg (by omega)] at k
                rw [if_neg (m4_nI (by omega)), bd6_some, nI_pred]
                exact ⟨_, _, _, _, _, _, _, _, _, _, _, _, _, _, _, _, _, _, _, _, _, _, rfl, rfl, k⟩
            · rw [show (30 : Int32) = nI 30 from rfl, if_neg (nI_nlt (by omega) (by omega)), if_pos (by rw [show C = 30 from by omega])]
              exact no (-3)
          by_cases c0 : C = 0
          · have z : nI C ≤ 0 := by rw [c0]; decide
            rw [if_pos z, if_pos z]
            exact write
          · have z : ¬ nI C ≤ 0 := by rw [i0nI]; exact nI_ge (by omega) (by omega)
            have m1 : nI C - 1 = nI (C - 1) := by rw [i1nI, pk_sub (by omega)]
            obtain ⟨a1, -⟩ := h4 (C - 1) (by omega)
            obtain ⟨b1, -⟩ := h5 (C - 1) (by omega)
            obtain ⟨c1, c2, -⟩ := h6 (C - 1) (by omega)
            have tM2 : (24 : Int32) * nI (tm (C - 1) / 24) + nI (tm (C - 1) % 24) = nI (tm (C - 1)) := by
              rw [show (24 : Int32) = nI 24 from rfl, pk_mul, nI_add]
              congr 1
              omega
            rw [if_neg z, if_neg z, m1, ar_nI (by omega) (by decide), ar_nI (by omega) (by decide), ar_nI (by omega) (by decide), b1, c1, c2, tM, tM2]
            by_cases y : tm (C - 1) ≤ 24 * d + t
            · rw [if_pos (nI_le y (by omega)), if_pos (nI_le y (by omega))]
              exact write
            · rw [if_neg (nI_ge (by omega) (by omega)), if_neg (nI_ge (by omega) (by omega))]
              exact no (-2)
        by_cases q4 : x6 = -4
        · rw [if_pos q4, if_pos q4]
          exact fin (Or.inl q4)
        · rw [if_neg q4, if_neg q4]
          rcases P_repeat (n := n) hB hP hQ hW x6 hf ha hw with ⟨j, j1, j2, j3, j4, j5, j6, j7, j8⟩ | ⟨j7, j8⟩
          · rw [j7, j8, bd1_some, bd1_some, if_neg i10, if_neg i10]
            exact fin (Or.inr ⟨j, j1, j2, j3, j4, j5, j6⟩)
          · rw [j7, j8, bd1_some, bd1_some, if_pos rfl, if_pos rfl]
            exact no _
      · rw [X_fits_n hX q3, M_fits_n hM q3, bd1_some, bd1_some, if_pos rfl, if_pos rfl]
        exact no _
    · rw [p1, p2, fX1_isPlace_n (by omega) q, fX9_isPlace_n (by omega) q, bd1_some, bd1_some, if_pos rfl, if_pos rfl]
      exact no _
  · rw [fX8_isTime_n q1, fX9_isTime_n q1, bd1_some, bd1_some, if_pos rfl, if_pos rfl]
    exact no _
end BK

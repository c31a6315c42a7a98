/-! the BOOK: has, knows, since, spread, callOf -/
section KN
variable {n C P Q W G nl : Nat} {am tm fr ak wd ff lf : Nat → Nat} {bt bf ba bw bff bl : Nat → Int32} {bs mcs : Int32} {cd ch cf ca cw co cl : Nat → Int32}
variable {X Y Z RX RH : Nat → Nat} {xs ys hs rx rh mxs mys mhs mrx mrh sl ss sc ml ms mc : Nat → Int32} {p g mp mg : Int32} {wv : Nat → Int32}
variable {ln : Nat → Nat} {mm : Nat → Nat → Nat} {spelled alike near asks : Nat → Int32} {rows : Nat → Int64} {letters words askCount : Int32} {mletters wMany wLetters aWords : Nat → Int32} {mwords masks : Int32}
variable {hd : Nat → Nat → Bool} {hm : Nat → Nat → Nat}
def hxP (n C P : Nat) (hd : Nat → Nat → Bool) (hm : Nat → Nat → Nat) (sl ss sc xs ys hs rx rh : Nat → Int32) (g : Int32) (bt bf ba bw alike asks : Nat → Int32) : Prop := ∀ a c, a < P → c < C → fX0_heardBy n sl ss sc xs ys hs rx rh g bt bf ba bw alike asks (nI a) (nI c) = some (if hd a c = true then nI (hm a c) else -1)
def hoP (n C P : Nat) (hd : Nat → Nat → Bool) (hm : Nat → Nat → Nat) (mletters : Nat → Int32) (mwords : Int32) (wMany wLetters aWords mxs mys mhs : Nat → Int32) (mg : Int32) (mrx mrh ml ms mc ch cf ca cw : Nat → Int32) : Prop := ∀ a c, a < P → c < C → ∀ (s : Int32) (rs : Nat → Int32) (t : Int32) (rt : Nat → Int32), ∃ s' f t' h, fX9_hasOne n mletters mwords wMany wLetters aWords s rs t rt mxs mys mhs mg mrx mrh ml ms mc ch cf ca cw (nI a) (nI c) = some (if hd a c = true then nI (hm a c) else -4, s', f, t', h)
theorem X_held (hn : 1000 ≤ n) (hB : RB C P Q W am tm fr ak wd ff lf bt bf ba bw bff bl bs mcs cd ch cf ca cw co cl) (H : HH n C P W fr ak wd ff lf hd hm) (hx : hxP n C P hd hm sl ss sc xs ys hs rx rh g bt bf ba bw alike asks) {a f u : Nat} (ha : a < P) (hf : f < C) (hu : u ≤ C) : fX0_heldFrom n sl ss sc xs ys hs rx rh g bt bf ba bw bff alike asks (nI a) (nI f) (nI u) = some (oM (ac ff hd hm a f u)) := by
  have hC := H.C30
  have b5 := hB.2.2.2.2.1
  have lp : ∀ (d k c : Nat), c + d = u → d < k → fX0_heldFrom_p6 n sl ss sc xs ys hs rx rh g bt bf ba bw bff alike asks (nI a) (nI f) (nI u) k (oX (ac ff hd hm a f c)) (nI c) = some (oM (ac ff hd hm a f u)) := by
    intro d
    induction d with
    | zero =>
      intro k c hc hk
      obtain ⟨k, rfl⟩ : ∃ q, k = q + 1 := ⟨k - 1, by omega⟩
      rw [fX0_heldFrom_p6, show c = u from by omega, if_pos (nI_le (by omega) (by omega))]
      by_cases z : ac ff hd hm a f u = none
      · rw [if_pos ((oX_m1 H hu).mpr z), z]; rfl
      · rw [if_neg (fun y => z ((oX_m1 H hu).mp y))]
        cases e : ac ff hd hm a f u with
        | none => exact absurd e z
        | some m => rfl
    | succ d ih =>
      intro k c hc hk
      obtain ⟨k, rfl⟩ : ∃ q, k = q + 1 := ⟨k - 1, by omega⟩
      have hi := ih k (c + 1) (by omega) (by omega)
      have fc := (H.bnd c (by omega)).2.1
      rw [fX0_heldFrom_p6, if_neg (nI_ge (by omega) (by omega)), ar_nI (by omega) (by decide), (b5 c (by omega)).2.2.2.2.1]
      by_cases z : ff c = f
      · rw [if_pos (by rw [z]), hx a c ha (by omega), bd1_some, oX_step z, nm, nI_1]
        exact hi
      · rw [if_neg (by rw [nI_eq (by omega) (by omega)]; exact z), nI_1]
        rw [ac_else z] at hi
        exact hi
  unfold fX0_heldFrom
  by_cases z : u ≤ f
  · obtain ⟨n', hn'⟩ : ∃ q, n = q + 1 := ⟨n - 1, by omega⟩
    rw [ac_none H z hu, show fX0_heldFrom_p6 n sl ss sc xs ys hs rx rh g bt bf ba bw bff alike asks (nI a) (nI f) (nI u) n (-1) (nI f) = fX0_heldFrom_p6 n sl ss sc xs ys hs rx rh g bt bf ba bw bff alike asks (nI a) (nI f) (nI u) (n' + 1) (-1) (nI f) from by rw [← hn'], fX0_heldFrom_p6, if_pos (nI_le z (by omega)), if_pos rfl]
    rfl
  · have l := lp (u - f) n f (by omega) (by omega)
    rw [ac_none H (Nat.le_refl f) (by omega)] at l
    exact l
theorem M_hasAll (hn : 1000 ≤ n) (hB : RB C P Q W am tm fr ak wd ff lf bt bf ba bw bff bl bs mcs cd ch cf ca cw co cl) (H : HH n C P W fr ak wd ff lf hd hm) (ho : hoP n C P hd hm mletters mwords wMany wLetters aWords mxs mys mhs mg mrx mrh ml ms mc ch cf ca cw) {a f u : Nat} (ha : a < P) (hf : f < C) (hu : u ≤ C) (s t : Int32) (rs rt : Nat → Int32) : ∃ s' r t' h, fX9_hasAll n mletters mwords wMany wLetters aWords s rs t rt mxs mys mhs mg mrx mrh ml ms mc ch cf ca cw co (nI a) (nI f) (nI u) = some (oM (ac ff hd hm a f u), s', r, t', h) := by
  have hC := H.C30
  have lp : ∀ (d k c : Nat) (s t : Int32) (rs rt : Nat → Int32), c + d = u → d < k → ∃ s' r t' h, fX9_hasAll_p7 n mletters mwords wMany wLetters aWords mxs mys mhs mg mrx mrh ml ms mc ch cf ca cw co (nI a) (nI f) (nI u) k s rs t rt (oM (ac ff hd hm a f c)) (nI c) = some (oM (ac ff hd hm a f u), s', r, t', h) := by
    intro d
    induction d with
    | zero =>
      intro k c s t rs rt hc hk
      obtain ⟨k, rfl⟩ : ∃ q, k = q + 1 := ⟨k - 1, by omega⟩
      rw [fX9_hasAll_p7, show c = u from by omega, if_pos (nI_le (by omega) (by omega))]
      exact ⟨_, _, _, _, rfl⟩
    | succ d ih =>
      intro k c s t rs rt hc hk
      obtain ⟨k, rfl⟩ : ∃ q, k = q + 1 := ⟨k - 1, by omega⟩
      have fc := (H.bnd c (by omega)).2.1
      rw [fX9_hasAll_p7, if_neg (nI_ge (by omega) (by omega)), M_firstOf hB (show c < C by omega), bd1_some]
      by_cases z : ff c = f
      · obtain ⟨s', r, t', h, e⟩ := ho a c ha (by omega) s rs t rt
        have hi := ih k (c + 1) s' t' r h (by omega) (by omega)
        rw [if_pos (by rw [z]), e, bd5_some]
        have l := pow16 H.W16 (H.hml a c (by omega)).1
        by_cases y : hd a c = true
        · rw [if_pos y, if_neg (m4_nI (by omega))]
          rw [ac, if_pos ⟨z, y⟩] at hi
          cases o : ac ff hd hm a f c with
          | none =>
            rw [o] at hi
            rw [if_pos (show oM none = -4 from rfl), nI_1]
            exact hi
          | some m =>
            have ml := pow16 H.W16 (ac_ok H (by omega) o).1
            rw [o] at hi
            rw [show oM (some m) = nI m from rfl, if_neg (m4_nI (by omega)), fa_and, nm, nI_1]
            exact hi
        · rw [if_neg y, if_pos rfl, nI_1]
          rw [ac, if_neg (fun q => y q.2)] at hi
          exact hi
      · rw [if_neg (by rw [nI_eq (by omega) (by omega)]; exact z), nI_1]
        have hi := ih k (c + 1) s t rs rt (by omega) (by omega)
        rw [ac_else z] at hi
        exact hi
  unfold fX9_hasAll
  by_cases z : u ≤ f
  · obtain ⟨n', hn'⟩ : ∃ q, n = q + 1 := ⟨n - 1, by omega⟩
    rw [ac_none H z hu, show fX9_hasAll_p7 n mletters mwords wMany wLetters aWords mxs mys mhs mg mrx mrh ml ms mc ch cf ca cw co (nI a) (nI f) (nI u) n s rs t rt (-4) (nI f) = fX9_hasAll_p7 n mletters mwords wMany wLetters aWords mxs mys mhs mg mrx mrh ml ms mc ch cf ca cw co (nI a) (nI f) (nI u) (n' + 1) s rs t rt (-4) (nI f) from by rw [← hn'], fX9_hasAll_p7, if_pos (nI_le z (by omega))]
    exact ⟨_, _, _, _, rfl⟩
  · have l := lp (u - f) n f s t rs rt (by omega) (by omega)
    rw [ac_none H (Nat.le_refl f) (by omega)] at l
    exact l
theorem P_upTo (hn : 1000 ≤ n) (hB : RB C P Q W am tm fr ak wd ff lf bt bf ba bw bff bl bs mcs cd ch cf ca cw co cl) {d t : Nat} (hd : d < 100) (ht : t < 24) : ∃ u, u ≤ C ∧ fX0_callsUpTo n bt bs (nI (24 * d + t)) = some (nI u) ∧ fX9_upTo n mcs cd ch (nI d) (nI t) = some (nI u) := by
  obtain ⟨h1, h2, h3, h4, h5, h6, h7⟩ := hB
  unfold fX0_callsUpTo fX9_upTo
  have tM : ∀ e f : Nat, (24 : Int32) * nI e + nI f = nI (24 * e + f) := fun e f => by rw [show (24 : Int32) = nI 24 from rfl, pk_mul, nI_add]
  have lp : ∀ (e k c : Nat), c + e = C → e < k → ∃ u, u ≤ C ∧ fX0_callsUpTo_p2 n bt bs (nI (24 * d + t)) k (nI c) = some (nI u) ∧ fX9_upTo_p2 n mcs cd ch (nI d) (nI t) k (nI c) = some (nI u) := by
    intro e
    induction e with
    | zero =>
      intro k c hc hk
      obtain ⟨k, rfl⟩ : ∃ q, k = q + 1 := ⟨k - 1, by omega⟩
      rw [fX0_callsUpTo_p2, fX9_upTo_p2, h2, h3, if_pos (nI_le (by omega) (by omega)), if_pos (nI_le (by omega) (by omega))]
      exact ⟨c, by omega, rfl, rfl⟩
    | succ e ih =>
      intro k c hc hk
      obtain ⟨k, rfl⟩ : ∃ q, k = q + 1 := ⟨k - 1, by omega⟩
      obtain ⟨a1, -⟩ := h4 c (by omega)
      obtain ⟨b1, -⟩ := h5 c (by omega)
      obtain ⟨c1, c2, -⟩ := h6 c (by omega)
      rw [fX0_callsUpTo_p2, fX9_upTo_p2, h2, h3, if_neg (nI_ge (by omega) (by omega)), if_neg (nI_ge (by omega) (by omega)), ar_nI (by omega) (by decide), ar_nI (by omega) (by decide), ar_nI (by omega) (by decide), b1, c1, c2, tM, tM, show 24 * (tm c / 24) + tm c % 24 = tm c from by omega, ← h2, nI_1]
      by_cases z : 24 * d + t < tm c
      · rw [if_pos (nI_lt z (by omega)), if_pos (nI_lt z (by omega))]
        exact ⟨c, by omega, rfl, rfl⟩
      · rw [if_neg (nI_nlt (by omega) (by omega)), if_neg (nI_nlt (by omega) (by omega))]
        have hi := ih k (c + 1) (by omega) (by omega)
        rw [h2, h3] at hi
        rw [h2]
        exact hi
  exact lp C n 0 (by omega) (by omega)
theorem X_timeOf {n d t : Nat} : fX8_timeOf n (nI d) (nI t) = some (nI (24 * d + t)) := by
  unfold fX8_timeOf
  rw [show (24 : Int32) = nI 24 from rfl, pk_mul, nI_add, Nat.mul_comm]
/-- the class's settling, and what is held -/
def heldI (C c : Nat) (fr ff lf : Nat → Nat) (hd : Nat → Nat → Bool) (hm : Nat → Nat → Nat) (a : Nat) (sel : Nat → Prop) (h : Nat → Int32) : Prop := ∀ f, f < C → sel f → lf f = 0 → fr f ≠ a → h f = oX (ac ff hd hm a f c)
theorem X_settles (hB : RB C P Q W am tm fr ak wd ff lf bt bf ba bw bff bl bs mcs cd ch cf ca cw co cl) (H : HH n C P W fr ak wd ff lf hd hm) (hx : hxP n C P hd hm sl ss sc xs ys hs rx rh g bt bf ba bw alike asks) {a c : Nat} (ha : a < P) (hc : c < C) {sel : Nat → Prop} (hsel : ∀ c, c < C → (sel (ff c) ↔ sel c)) (sc1 : sel c) {h : Nat → Int32} (hh : heldI C c fr ff lf hd hm a sel h) :
    ∃ h', fX0_settlesWord n sl ss sc xs ys hs rx rh g bt bf ba bw bff bl h alike asks (nI a) (nI c) = some (if stl fr ff lf hd hm a c = true then 1 else 0, h') ∧ heldI C (c + 1) fr ff lf hd hm a sel h' := by
  have hC := H.C30
  have hP := H.P10
  obtain ⟨e1, e2, e3, e4, e5, e6, e7⟩ := H.bnd c hc
  obtain ⟨e8, e9, -⟩ := hB.2.2.2.1 c hc
  obtain ⟨f1, f2, f3, f4, f5, f6⟩ := hB.2.2.2.2.1 c hc
  have l1 := (H.bnd (ff c) (by omega)).2.2.2.2.2.2
  unfold fX0_settlesWord stl
  rw [X_isFalse hB hc, bd1_some]
  have skip : (¬ (lf (ff c) = 0 ∧ fr c ≠ a)) → heldI C (c + 1) fr ff lf hd hm a sel h := by
    intro q f hf s1 s2 s3
    rw [ac_else (fun z => q ⟨by rw [z]; exact s2, by rw [← e4, z]; exact s3⟩)]
    exact hh f hf s1 s2 s3
  by_cases z : lf (ff c) = 0
  · rw [z, if_pos (show nI 0 = 0 from rfl), ar_nI (by omega) (by decide), f2]
    by_cases y : fr c = a
    · rw [if_pos (by rw [y]), if_pos (by simp [y])]
      exact ⟨h, rfl, skip (fun q => q.2 y)⟩
    · have hv := hh (ff c) (by omega) ((hsel c hc).mpr sc1) z (by rw [e4]; exact y)
      rw [if_neg (by rw [nI_eq (by omega) (by omega)]; exact y), ar_nI (by omega) (by decide), f5, ar_nI (by omega) (by decide), hv, hx a c ha hc, bd1_some, oX_step rfl, aw_nI (by omega) (by decide), ar_nI (by omega) (by decide), pk_us]
      have inv : heldI C (c + 1) fr ff lf hd hm a sel (upd h (ff c) (oX (ac ff hd hm a (ff c) (c + 1)))) := by
        intro f hf s1 s2 s3
        by_cases x : f = ff c
        · rw [x, pk_us]
        · rw [pk_un x, ac_else (fun q => x q.symm)]
          exact hh f hf s1 s2 s3
      have one : fX0_isOneWord n (oX (ac ff hd hm a (ff c) (c + 1))) = some (if sg (ac ff hd hm a (ff c) (c + 1)) = true then 1 else 0) := by
        unfold fX0_isOneWord
        cases o : ac ff hd hm a (ff c) (c + 1) with
        | none => simp [oX, sg]
        | some m =>
          have ml := pow16 H.W16 (ac_ok H (by omega) o).1
          have cm := ct_le m
          rw [show oX (some m) = nI m from rfl, show sg (some m) = decide (ct m = 1) from rfl, if_neg (m1_nI (by omega)), J_bitCount ml, bd1_some]
          by_cases x : ct m = 1
          · rw [if_pos (by rw [x]; rfl), if_pos (by simp [x])]
          · rw [if_neg (by rw [i1nI, nI_eq (by omega) (by omega)]; exact x), if_neg (by simp [x])]
      rw [one, bd1_some]
      by_cases x : sg (ac ff hd hm a (ff c) (c + 1)) = true
      · rw [if_pos x, rb_1, if_pos (by simp [x])]
        exact ⟨_, rfl, inv⟩
      · rw [if_neg x, rb_0, if_neg (by simp [x, y])]
        exact ⟨_, rfl, inv⟩
  · rw [if_neg (by rw [i0nI, nI_eq (by omega) (by omega)]; exact z), if_neg (by simp [z])]
    exact ⟨h, rfl, skip (fun q => z q.1)⟩
theorem held_skip (H : HH n C P W fr ak wd ff lf hd hm) {a c : Nat} (hc : c < C) {sel : Nat → Prop} (hsel : ∀ c, c < C → (sel (ff c) ↔ sel c)) (sc1 : ¬ sel c) {h : Nat → Int32} (hh : heldI C c fr ff lf hd hm a sel h) : heldI C (c + 1) fr ff lf hd hm a sel h := by
  intro f hf s1 s2 s3
  rw [ac_else (fun z => sc1 ((hsel c hc).mp (by rw [z]; exact s1)))]
  exact hh f hf s1 s2 s3
theorem or_word {m w : Nat} (hw : w < 16) : nI m ||| ((1 : Int32) <<< (nI w &&& 31)) = nI (m ||| 2 ^ w) := or_bit2 (by omega)
theorem X_knownTo (hn : 1000 ≤ n) (hB : RB C P Q W am tm fr ak wd ff lf bt bf ba bw bff bl bs mcs cd ch cf ca cw co cl) (H : HH n C P W fr ak wd ff lf hd hm) (hQ : Q ≤ 6) (hx : hxP n C P hd hm sl ss sc xs ys hs rx rh g bt bf ba bw alike asks) {a q u : Nat} (ha : a < P) (hq : q < Q) (hu : u ≤ C) (h : Nat → Int32) :
    ∃ m h', fX0_knownTo n sl ss sc xs ys hs rx rh g bt bf ba bw bff bl h alike asks (nI a) (nI q) (nI u) = some (nI m, h') ∧ m < 2 ^ W ∧ ∀ w, m.testBit w = true ↔ SX fr ak wd ff lf hd hm a q u w := by
  have hC := H.C30
  have hsel : ∀ c, c < C → ((fun f => ak f = q) (ff c) ↔ (fun f => ak f = q) c) := fun c hc => by
    have := (H.bnd c hc).2.2.2.2.1
    simp only [this]
  have lp : ∀ (d k c m : Nat) (h : Nat → Int32), c + d = u → d < k → heldI C c fr ff lf hd hm a (fun f => ak f = q) h → m < 2 ^ W → (∀ w, m.testBit w = true ↔ SX fr ak wd ff lf hd hm a q c w) → ∃ m' h', fX0_knownTo_p14 n sl ss sc xs ys hs rx rh g bt bf ba bw bff bl alike asks (nI a) (nI q) (nI u) k h (nI m) (nI c) = some (nI m', h') ∧ m' < 2 ^ W ∧ ∀ w, m'.testBit w = true ↔ SX fr ak wd ff lf hd hm a q u w := by
    intro d
    induction d with
    | zero =>
      intro k c m h hc hk i1 i2 i3
      obtain ⟨k, rfl⟩ : ∃ q, k = q + 1 := ⟨k - 1, by omega⟩
      rw [fX0_knownTo_p14, show c = u from by omega, if_pos (nI_le (by omega) (by omega))]
      rw [show c = u from by omega] at i3
      exact ⟨m, h, rfl, i2, i3⟩
    | succ d ih =>
      intro k c m h hc hk i1 i2 i3
      obtain ⟨k, rfl⟩ : ∃ q, k = q + 1 := ⟨k - 1, by omega⟩
      have cC : c < C := by omega
      obtain ⟨e8, e9, e10, e11, -⟩ := hB.2.2.2.1 c cC
      obtain ⟨f1, f2, f3, f4, f5, f6⟩ := hB.2.2.2.2.1 c cC
      have no : (ak c = q → stl fr ff lf hd hm a c = false) → ∀ w, m.testBit w = true ↔ SX fr ak wd ff lf hd hm a q (c + 1) w := by
        intro z w
        rw [i3 w]
        constructor
        · rintro ⟨d, d1, d2⟩
          exact ⟨d, by omega, d2⟩
        · rintro ⟨d, d1, d2, d3, d4⟩
          by_cases x : d = c
          · subst x
            rw [z d2] at d4
            cases d4
          · exact ⟨d, by omega, d2, d3, d4⟩
      rw [fX0_knownTo_p14, if_neg (nI_ge (by omega) (by omega)), ar_nI (by omega) (by decide), f3]
      by_cases z : ak c = q
      · obtain ⟨h', s1, s2⟩ := X_settles hB H hx ha cC hsel z i1
        rw [if_pos (by rw [z]), s1, bd2_some]
        by_cases y : stl fr ff lf hd hm a c = true
        · have w16 := H.W16
          rw [if_pos y, if_neg i10, ar_nI (by omega) (by decide), f4, or_word (by omega), nm, nI_1]
          refine ih k (c + 1) (m ||| 2 ^ wd c) h' (by omega) (by omega) s2 (Nat.or_lt_two_pow i2 (Nat.pow_lt_pow_right (by decide) e11)) (fun w => ?_)
          rw [Nat.testBit_or, Bool.or_eq_true, i3 w, Nat.testBit_two_pow, decide_eq_true_eq]
          constructor
          · rintro (⟨d, d1, d2⟩ | x)
            · exact ⟨d, by omega, d2⟩
            · exact ⟨c, by omega, z, x, y⟩
          · rintro ⟨d, d1, d2, d3, d4⟩
            by_cases x : d = c
            · subst x; exact Or.inr d3
            · exact Or.inl ⟨d, by omega, d2, d3, d4⟩
        · rw [if_neg y, if_pos rfl, nI_1]
          exact ih k (c + 1) m h' (by omega) (by omega) s2 i2 (no (fun _ => by simpa using y))
      · rw [if_neg (by rw [nI_eq (by omega) (by omega)]; exact z), nI_1]
        exact ih k (c + 1) m h (by omega) (by omega) (held_skip H cC hsel z i1) i2 (no (fun x => absurd x z))
  unfold fX0_knownTo
  obtain ⟨f, g1, g2, -⟩ := J_fill_all (n := n) (N := 30) (-1) (by decide) (by omega) h
  rw [g1, bd1_some]
  exact lp u n 0 0 f (by omega) (by omega) (fun f hf _ _ _ => g2 f (by omega)) (Nat.pow_pos (by decide)) (fun w => by
    constructor
    · intro z; simp at z
    · rintro ⟨c, hc, -⟩; omega)
theorem M_knowsBy (hn : 1000 ≤ n) (hB : RB C P Q W am tm fr ak wd ff lf bt bf ba bw bff bl bs mcs cd ch cf ca cw co cl) (H : HH n C P W fr ak wd ff lf hd hm) (hQ : Q ≤ 6) (ho : hoP n C P hd hm mletters mwords wMany wLetters aWords mxs mys mhs mg mrx mrh ml ms mc ch cf ca cw) {a q u : Nat} (ha : a < P) (hq : q < Q) (hu : u ≤ C) (s t : Int32) (rs rt : Nat → Int32) :
    ∃ m s' r t' h, fX9_knowsBy n mletters mwords wMany wLetters aWords s rs t rt mxs mys mhs mg mrx mrh ml ms mc ch cf ca cw co cl (nI a) (nI q) (nI u) = some (nI m, s', r, t', h) ∧ m < 2 ^ W ∧ ∀ w, m.testBit w = true ↔ SX fr ak wd ff lf hd hm a q u w := by
  have hC := H.C30
  have hP := H.P10
  have w16 := H.W16
  have lp : ∀ (d k c m : Nat) (s t : Int32) (rs rt : Nat → Int32), c + d = u → d < k → m < 2 ^ W → (∀ w, m.testBit w = true ↔ SM fr ak wd ff lf hd hm a q u c w) → ∃ m' s' r t' h, fX9_knowsBy_p6 n mletters mwords wMany wLetters aWords mxs mys mhs mg mrx mrh ml ms mc ch cf ca cw co cl (nI a) (nI q) (nI u) k s rs t rt (nI m) (nI c) = some (nI m', s', r, t', h) ∧ m' < 2 ^ W ∧ ∀ w, m'.testBit w = true ↔ SX fr ak wd ff lf hd hm a q u w := by
    intro d
    induction d with
    | zero =>
      intro k c m s t rs rt hc hk i2 i3
      obtain ⟨k, rfl⟩ : ∃ q, k = q + 1 := ⟨k - 1, by omega⟩
      rw [fX9_knowsBy_p6, show c = u from by omega, if_pos (nI_le (by omega) (by omega))]
      rw [show c = u from by omega] at i3
      exact ⟨m, _, _, _, _, rfl, i2, fun w => by rw [i3 w, SX_SM H hu]⟩
    | succ d ih =>
      intro k c m s t rs rt hc hk i2 i3
      obtain ⟨k, rfl⟩ : ∃ q, k = q + 1 := ⟨k - 1, by omega⟩
      have cC : c < C := by omega
      obtain ⟨e8, e9, e10, e11, -⟩ := hB.2.2.2.1 c cC
      obtain ⟨f1, f2, f3, f4, f5, f6, f7⟩ := hB.2.2.2.2.2.1 c cC
      obtain ⟨e1, e2, e3, e4, e5, e6, e7⟩ := H.bnd c cC
      have l1 := (H.bnd (ff c) (by omega)).2.2.2.2.2.2
      have no : (ak c = q → ¬ lf (ff c) = 0) → ∀ w, m.testBit w = true ↔ SM fr ak wd ff lf hd hm a q u (c + 1) w := by
        intro z w
        rw [i3 w]
        constructor
        · rintro ⟨d, d1, d2⟩
          exact ⟨d, by omega, d2⟩
        · rintro ⟨d, d1, d2, d3, d4, d5⟩
          by_cases x : d = c
          · subst x
            exact absurd d4 (z d2)
          · exact ⟨d, by omega, d2, d3, d4, d5⟩
      rw [fX9_knowsBy_p6, if_neg (nI_ge (by omega) (by omega)), ar_nI (by omega) (by decide), f4]
      by_cases z : ak c = q
      · rw [if_pos (by rw [z]), M_isFalse hB cC, bd1_some]
        by_cases y : lf (ff c) = 0
        · rw [y, if_pos (show nI 0 = 0 from rfl), ar_nI (by omega) (by decide), f6]
          -- both parts of the step
          have step : ∀ (s t : Int32) (rs rt : Nat → Int32) (o : Option Nat), (sg o = true ↔ (ff c = c ∧ sg (ac ff hd hm a c u) = true)) → (∀ m, o = some m → m < 2 ^ W ∧ m.testBit (wd c) = true) → ∃ m' s' r t' h, fX9_knowsBy_p57 n mletters mwords wMany wLetters aWords s rs t rt mxs mys mhs mg mrx mrh ml ms mc ch cf ca cw co cl (nI a) (nI q) (nI u) (nI m) (nI c) (oM o) (fX9_knowsBy_p6 n mletters mwords wMany wLetters aWords mxs mys mhs mg mrx mrh ml ms mc ch cf ca cw co cl (nI a) (nI q) (nI u) k) = some (nI m', s', r, t', h) ∧ m' < 2 ^ W ∧ ∀ w, m'.testBit w = true ↔ SX fr ak wd ff lf hd hm a q u w := by
            intro s t rs rt o o1 o2
            have one : ∀ m1 : Nat, m1 < 2 ^ W → (∀ w, m1.testBit w = true ↔ (m.testBit w = true ∨ (fr c = a ∧ wd c = w))) → ∀ s1 : Int32, nI m ||| s1 = nI m1 → ∃ m' s' r t' h, fX9_knowsBy_p85 n mletters mwords wMany wLetters aWords s rs t rt mxs mys mhs mg mrx mrh ml ms mc ch cf ca cw co cl (nI a) (nI q) (nI u) (nI c) (oM o) (nI m) s1 (fX9_knowsBy_p6 n mletters mwords wMany wLetters aWords mxs mys mhs mg mrx mrh ml ms mc ch cf ca cw co cl (nI a) (nI q) (nI u) k) = some (nI m', s', r, t', h) ∧ m' < 2 ^ W ∧ ∀ w, m'.testBit w = true ↔ SX fr ak wd ff lf hd hm a q u w := by
              intro m1 h1 h2 s1 h3
              unfold fX9_knowsBy_p85
              rw [h3, nm]
              have go : ∀ m2 : Nat, m2 < 2 ^ W → (∀ w, m2.testBit w = true ↔ (m1.testBit w = true ∨ (sg o = true ∧ wd c = w))) → ∃ m' s' r t' h, fX9_knowsBy_p6 n mletters mwords wMany wLetters aWords mxs mys mhs mg mrx mrh ml ms mc ch cf ca cw co cl (nI a) (nI q) (nI u) k s rs t rt (nI m2) (nI c + 1) = some (nI m', s', r, t', h) ∧ m' < 2 ^ W ∧ ∀ w, m'.testBit w = true ↔ SX fr ak wd ff lf hd hm a q u w := by
                intro m2 g1 g2
                rw [nI_1]
                refine ih k (c + 1) m2 s t rs rt (by omega) (by omega) g1 (fun w => ?_)
                rw [g2 w, h2 w, i3 w, o1]
                constructor
                · rintro ((⟨d, d1, d2⟩ | x) | x)
                  · exact ⟨d, by omega, d2⟩
                  · exact ⟨c, by omega, z, x.2, y, Or.inl x.1⟩
                  · exact ⟨c, by omega, z, x.2, y, Or.inr x.1⟩
                · rintro ⟨d, d1, d2, d3, d4, d5⟩
                  by_cases x : d = c
                  · subst x
                    rcases d5 with x | x
                    · exact Or.inl (Or.inr ⟨x, d3⟩)
                    · exact Or.inr ⟨x, d3⟩
                  · exact Or.inl (Or.inl ⟨d, by omega, d2, d3, d4, d5⟩)
              have same : sg o = false → ∀ w, m1.testBit w = true ↔ (m1.testBit w = true ∨ (sg o = true ∧ wd c = w)) := by
                intro x w
                rw [x]
                simp
              have or0 : nI m1 ||| (0 : Int32) = nI m1 := by rw [i0nI, fa_or, Nat.or_zero]
              cases o with
              | none =>
                rw [if_pos (show oM none = -4 from rfl), or0, nm]
                exact go m1 h1 (same rfl)
              | some mo =>
                obtain ⟨x1, x2⟩ := o2 mo rfl
                have x3 := pow16 w16 x1
                have x4 := ct_le mo
                rw [show oM (some mo) = nI mo from rfl, if_neg (m4_nI (by omega)), M_bits hn x3, bd1_some]
                by_cases x : ct mo = 1
                · rw [if_pos (by rw [x]; rfl)]
                  rw [fa_or, nm]
                  refine go (m1 ||| mo) (Nat.or_lt_two_pow h1 x1) (fun w => ?_)
                  have e : mo = 2 ^ wd c := (ct_one x3 (by omega) x2).mp x
                  rw [Nat.testBit_or, Bool.or_eq_true, e, Nat.testBit_two_pow, decide_eq_true_eq]
                  have : sg (some (2 ^ wd c)) = true := by
                    rw [← e]
                    simp [sg, x]
                  rw [this]
                  simp
                · rw [if_neg (by rw [i1nI, nI_eq (by omega) (by omega)]; exact x), or0, nm]
                  exact go m1 h1 (same (by simp [sg, x]))
            unfold fX9_knowsBy_p57
            rw [ar_nI (by omega) (by decide), f3]
            by_cases x : fr c = a
            · rw [if_pos (by rw [x]), ar_nI (by omega) (by decide), f5]
              refine one (m ||| 2 ^ wd c) (Nat.or_lt_two_pow i2 (Nat.pow_lt_pow_right (by decide) e11)) (fun w => ?_) _ (or_word (by omega))
              rw [Nat.testBit_or, Bool.or_eq_true, Nat.testBit_two_pow, decide_eq_true_eq]
              simp [x]
            · rw [if_neg (by rw [nI_eq (by omega) (by omega)]; exact x)]
              refine one m i2 (fun w => ?_) _ (by rw [i0nI, fa_or, Nat.or_zero])
              simp [x]
          by_cases x : ff c = c
          · obtain ⟨s', r, t', h, e⟩ := M_hasAll hn hB H ho ha cC hu s t rs rt
            rw [if_pos (show (if ff c = c then (-4 : Int32) else nI (ff c)) = -4 from if_pos x), e, bd5_some]
            exact step s' t' r h _ (by simp [x]) (fun m' hm' => ac_ok H hu hm')
          · rw [if_neg (show ¬ (if ff c = c then (-4 : Int32) else nI (ff c)) = -4 from fun z => x ((co_m4 (by omega)).mp z))]
            exact step s t rs rt none (by simp [x, sg]) (fun m' hm' => by cases hm')
        · rw [if_neg (by rw [i0nI, nI_eq (by omega) (by omega)]; exact y), nI_1]
          exact ih k (c + 1) m s t rs rt (by omega) (by omega) i2 (no (fun _ => y))
      · rw [if_neg (by rw [nI_eq (by omega) (by omega)]; exact z), nI_1]
        exact ih k (c + 1) m s t rs rt (by omega) (by omega) i2 (no (fun x => absurd x z))
  unfold fX9_knowsBy
  exact lp u n 0 0 s t rs rt (by omega) (by omega) (Nat.pow_pos (by decide)) (fun w => by
    constructor
    · intro z; simp at z
    · rintro ⟨c, hc, -⟩; omega)
end KN

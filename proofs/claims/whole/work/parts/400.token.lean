/-! the text: tokens on both sides -/
section TK
/-- the text as numbers -/
def TX (T : Nat) (tx : Nat → Nat) (tb mt : Nat → Int32) : Prop := T ≤ 400 ∧ ∀ i, i < 400 → tx i < 256 ∧ mt i = nI (tx i) ∧ tb i = (nI (tx i)).toInt8.toInt32
theorem TX_ex {T : Nat} {tb mt : Nat → Int32} {ts mtd : Int32} (h : RT T tb ts mt mtd) : ∃ tx, TX T tx tb mt := by
  have h1 : ∀ i, ∃ b, i < 400 → b < 256 ∧ mt i = nI b ∧ tb i = (nI b).toInt8.toInt32 := by
    intro i
    by_cases q : i < 400
    · obtain ⟨b, hb⟩ := h.2.2.2 i q
      exact ⟨b, fun _ => hb⟩
    · exact ⟨0, fun z => absurd z q⟩
  exact ⟨fun i => Classical.choose (h1 i), h.1, fun i hi => Classical.choose_spec (h1 i) hi⟩
theorem sb_all : ∀ b, b < 256 → ((nI b).toInt8.toInt32).toInt = if b < 128 then (b : Int) else (b : Int) - 256 := by decide +kernel
theorem sb_eq {b c : Nat} (hb : b < 256) (hc : c < 128) : (nI b).toInt8.toInt32 = nI c ↔ b = c := by
  have h := sb_all b hb
  constructor
  · intro e
    rw [e, nI_toInt (by omega)] at h
    by_cases q : b < 128
    · rw [if_pos q] at h; omega
    · rw [if_neg q] at h; omega
  · intro e
    apply Int32.toInt_inj.mp
    rw [h, nI_toInt (by omega), if_pos (by omega), e]
theorem sb_lt {b c : Nat} (hb : b < 256) (hc : c < 128) : (nI b).toInt8.toInt32 < nI c ↔ (b < c ∨ 128 ≤ b) := by
  rw [fa_lt, sb_all b hb, nI_toInt (by omega)]
  by_cases q : b < 128
  · rw [if_pos q]; omega
  · rw [if_neg q]; omega
theorem sb_gt {b c : Nat} (hb : b < 256) (hc : c < 128) : nI c < (nI b).toInt8.toInt32 ↔ (c < b ∧ b < 128) := by
  rw [fa_lt, sb_all b hb, nI_toInt (by omega)]
  by_cases q : b < 128
  · rw [if_pos q]; omega
  · rw [if_neg q]; omega
theorem sb_nI {b : Nat} (hb : b < 128) : (nI b).toInt8.toInt32 = nI b := (sb_eq (by omega) hb).mpr rfl
variable {n T : Nat} {tx : Nat → Nat} {tb mt : Nat → Int32}
theorem M_look (h : TX T tx tb mt) {q : Nat} (hq : q < T) : fX9_look n mt (nI T) (nI q) = some (nI (tx q)) := by
  have h1 := h.1
  unfold fX9_look
  rw [if_neg (nI_ge hq (by omega)), ar_nI (by omega) (by decide), (h.2 q (by omega)).2.1]
theorem M_look_e (h : TX T tx tb mt) {q : Nat} (hq : T ≤ q) (h2 : q < 10000) : fX9_look n mt (nI T) (nI q) = some (-1) := by
  have h1 := h.1
  unfold fX9_look
  rw [if_pos (nI_le hq (by omega))]
theorem M_in2 {n x a b : Nat} (hx : x < 10000) (ha : a < 10000) (hb : b < 10000) : fX9_in n (nI x).toInt64 (lN a) (lN b) = some (if a ≤ x ∧ x ≤ b then 1 else 0) := by
  rw [M_in, i32_64, lN_I (by omega), lN_I (by omega), nI_toInt (by omega)]
  congr 1
  by_cases z : a ≤ x ∧ x ≤ b
  · rw [if_pos z, if_pos (by omega)]
  · rw [if_neg z, if_neg (by omega)]
theorem M_in_m1 {n a b : Nat} (ha : a < 10000) (hb : b < 10000) : fX9_in n (-1 : Int32).toInt64 (lN a) (lN b) = some 0 := by
  rw [M_in, i32_64, lN_I (by omega), lN_I (by omega), if_neg]
  rw [show (-1 : Int32).toInt = -1 from rfl]
  omega
/-- a letter, a digit -/
def isL (c : Nat) : Prop := 97 ≤ c ∧ c ≤ 122
def isD (c : Nat) : Prop := 48 ≤ c ∧ c ≤ 57
/-- a token that is none of the bad ones -/
def TKg (T : Nat) (tx : Nat → Nat) (p kd s e : Nat) (xn mv : Int32) : Prop := p ≤ s ∧ s ≤ e ∧ e ≤ T ∧ kd ≤ 4 ∧ (kd = 0 ∨ s < e) ∧ (kd = 1 → ∀ i, s ≤ i → i < e → isL (tx i)) ∧ (kd = 2 → ∃ v, v < 100 ∧ xn = nI v ∧ mv = nI v)
theorem X_word (h : TX T tx tb mt) (xk xs xn : Int32) : ∀ (d k q : Nat), q + d = T → d < k → ∃ e, q ≤ e ∧ e ≤ T ∧ (∀ i, q ≤ i → i < e → isL (tx i)) ∧ (e < T → ¬ isL (tx e)) ∧ fX6_readToken_p107 n tb (nI T) xk xs xn k (nI q) = some (1, xs, nI e, xn) := by
  have h1 := h.1
  intro d
  induction d with
  | zero =>
    intro k q hq hk
    obtain ⟨k, rfl⟩ : ∃ q, k = q + 1 := ⟨k - 1, by omega⟩
    rw [fX6_readToken_p107, if_pos (nI_le (by omega) (by omega))]
    exact ⟨q, Nat.le_refl _, by omega, fun i a b => by omega, fun z => by omega, rfl⟩
  | succ d ih =>
    intro k q hq hk
    obtain ⟨k, rfl⟩ : ∃ q, k = q + 1 := ⟨k - 1, by omega⟩
    obtain ⟨c1, c2, c3⟩ := h.2 q (by omega)
    rw [fX6_readToken_p107, if_neg (nI_ge (by omega) (by omega)), ar_nI (by omega) (by decide), ar_nI (by omega) (by decide), c3, show (97 : Int32) = nI 97 from rfl, show (122 : Int32) = nI 122 from rfl]
    have stop : ¬ isL (tx q) → ∃ e, q ≤ e ∧ e ≤ T ∧ (∀ i, q ≤ i → i < e → isL (tx i)) ∧ (e < T → ¬ isL (tx e)) ∧ (some (1, xs, nI q, xn) : Option (Int32 × Int32 × Int32 × Int32)) = some (1, xs, nI e, xn) := fun z => ⟨q, Nat.le_refl _, by omega, fun i a b => by omega, fun _ => z, rfl⟩
    by_cases y : tx q < 97 ∨ 128 ≤ tx q
    · rw [if_pos ((sb_lt c1 (by decide)).mpr y)]
      exact stop (fun z => by unfold isL at z; omega)
    · rw [if_neg (fun z => y ((sb_lt c1 (by decide)).mp z))]
      by_cases y2 : 122 < tx q ∧ tx q < 128
      · rw [if_pos ((sb_gt c1 (by decide)).mpr y2)]
        exact stop (fun z => by unfold isL at z; omega)
      · rw [if_neg (fun z => y2 ((sb_gt c1 (by decide)).mp z)), nm, nI_1]
        obtain ⟨e, e1, e2, e3, e4, e5⟩ := ih k (q + 1) (by omega) (by omega)
        refine ⟨e, by omega, e2, fun i a b => ?_, e4, e5⟩
        by_cases z : i = q
        · subst z; unfold isL; omega
        · exact e3 i (by omega) b
theorem M_word (h : TX T tx tb mt) (mf ms mv mw : Int32) {e : Nat} (he : e ≤ T) (hs : e < T → ¬ isL (tx e)) : ∀ (d k q : Nat), q + d = e → d < k → (∀ i, q ≤ i → i < e → isL (tx i)) → fX9_next_p82 n mt (nI T) mf ms mv 0 mw k (nI q) = some (nI e, mf, ms, mv, 0, mw) := by
  have h1 := h.1
  intro d
  induction d with
  | zero =>
    intro k q hq hk hl
    obtain ⟨k, rfl⟩ : ∃ q, k = q + 1 := ⟨k - 1, by omega⟩
    have hq' : q = e := by omega
    subst hq'
    rw [fX9_next_p82, show (97 : Int64) = lN 97 from rfl, show (122 : Int64) = lN 122 from rfl]
    by_cases z : q < T
    · have c1 := (h.2 q (by omega)).1
      rw [M_look h z, bd1_some, M_in2 (by omega) (by decide) (by decide), bd1_some, if_neg (show ¬ (97 ≤ tx q ∧ tx q ≤ 122) from hs z), if_pos rfl]
    · rw [M_look_e h (by omega) (by omega), bd1_some, M_in_m1 (by decide) (by decide), bd1_some, if_pos rfl]
  | succ d ih =>
    intro k q hq hk hl
    obtain ⟨k, rfl⟩ : ∃ q, k = q + 1 := ⟨k - 1, by omega⟩
    have c1 := (h.2 q (by omega)).1
    rw [fX9_next_p82, show (97 : Int64) = lN 97 from rfl, show (122 : Int64) = lN 122 from rfl, M_look h (by omega), bd1_some, M_in2 (by omega) (by decide) (by decide), bd1_some, if_pos (show (97 ≤ tx q ∧ tx q ≤ 122) from hl q (by omega) (by omega)), if_neg i10, nm, nI_1]
    exact ih k (q + 1) (by omega) (by omega) (fun i a b => hl i (by omega) b)
theorem wants1 {n : Nat} {fr fa wr c : Int32} : fX9_wants n fr fa wr 1 c = some (fa, wr) := by
  unfold fX9_wants
  rw [if_neg i10]
theorem wants0 {n : Nat} {fr wr c : Int32} : fX9_wants n fr 0 wr 0 c = some (c, fr) := by
  unfold fX9_wants
  rw [if_pos rfl, if_pos rfl]
theorem P_num (h : TX T tx tb mt) {s : Nat} (xk mw : Int32) : ∀ (d k k' q : Nat) (x y : Int32), q + d = T → d < k → d < k' → s < q → (q = s + 1 → ∃ v, v < 10 ∧ x = nI v ∧ y = nI v) → (q = s + 2 → ∃ v, v < 100 ∧ x = nI v ∧ y = nI v) →
    ∃ e, q ≤ e ∧ e ≤ T ∧ ∃ x' y' : Int32, (e - s ≤ 2 → (∃ v, v < 100 ∧ x' = nI v ∧ y' = nI v)) ∧ fX6_readToken_p196 n tb (nI T) xk (nI s) k (nI q) x = fX6_readToken_p284 n xk (nI s) (nI e) x' ∧ fX9_next_p140 n mt (nI T) (nI s) 2 0 mw k' (nI q) y = fX9_next_p217 n (nI e) (nI s) 2 y' 0 mw := by
  have h1 := h.1
  intro d
  induction d with
  | zero =>
    intro k k' q x y hq hk hk' hs i1 i2
    obtain ⟨k, rfl⟩ : ∃ q, k = q + 1 := ⟨k - 1, by omega⟩
    obtain ⟨k', rfl⟩ : ∃ q, k' = q + 1 := ⟨k' - 1, by omega⟩
    rw [fX6_readToken_p196, if_pos (nI_le (by omega) (by omega)), fX9_next_p140, M_look_e h (by omega) (by omega), bd1_some, show (48 : Int64) = lN 48 from rfl, show (57 : Int64) = lN 57 from rfl, M_in_m1 (by decide) (by decide), bd1_some, if_pos rfl]
    refine ⟨q, by omega, by omega, x, y, fun z => ?_, rfl, rfl⟩
    by_cases z1 : q = s + 1
    · obtain ⟨v, v1, v2, v3⟩ := i1 z1
      exact ⟨v, by omega, v2, v3⟩
    · exact i2 (by omega)
  | succ d ih =>
    intro k k' q x y hq hk hk' hs i1 i2
    obtain ⟨k, rfl⟩ : ∃ q, k = q + 1 := ⟨k - 1, by omega⟩
    obtain ⟨k', rfl⟩ : ∃ q, k' = q + 1 := ⟨k' - 1, by omega⟩
    obtain ⟨c1, c2, c3⟩ := h.2 q (by omega)
    rw [fX6_readToken_p196, if_neg (nI_ge (by omega) (by omega)), ar_nI (by omega) (by decide), ar_nI (by omega) (by decide), ar_nI (by omega) (by decide), c3, show (48 : Int32) = nI 48 from rfl, show (57 : Int32) = nI 57 from rfl, fX9_next_p140, M_look h (by omega), bd1_some, show (48 : Int64) = lN 48 from rfl, show (57 : Int64) = lN 57 from rfl, M_in2 (by omega) (by decide) (by decide), bd1_some]
    by_cases z : 48 ≤ tx q ∧ tx q ≤ 57
    · have step : ∀ (y2 : Int32), (q + 1 = s + 2 → ∃ v, v < 100 ∧ x * 10 + (nI (tx q)).toInt8.toInt32 - nI 48 = nI v ∧ y2 = nI v) → ∃ e, q ≤ e ∧ e ≤ T ∧ ∃ x' y' : Int32, (e - s ≤ 2 → (∃ v, v < 100 ∧ x' = nI v ∧ y' = nI v)) ∧ fX6_readToken_p196 n tb (nI T) xk (nI s) k (nI (q + 1)) (x * 10 + (nI (tx q)).toInt8.toInt32 - nI 48) = fX6_readToken_p284 n xk (nI s) (nI e) x' ∧ fX9_next_p140 n mt (nI T) (nI s) 2 0 mw k' (nI (q + 1)) y2 = fX9_next_p217 n (nI e) (nI s) 2 y' 0 mw := by
        intro y2 hy
        obtain ⟨e, e1, e2, r⟩ := ih k k' (q + 1) _ y2 (by omega) (by omega) (by omega) (by omega) (fun w => by omega) hy
        exact ⟨e, by omega, e2, r⟩
      rw [if_neg (fun w => by have := (sb_lt c1 (by decide)).mp w; omega), if_neg (fun w => by have := (sb_gt c1 (by decide)).mp w; omega), nm, nm, nI_1, if_pos z, if_neg i10, pk_sub (by omega)]
      by_cases two : 2 ≤ q - s
      · rw [show (2 : Int32) = nI 2 from rfl, if_pos (nI_le two (by omega)), nm]
        exact step y (fun w => by omega)
      · rw [show (2 : Int32) = nI 2 from rfl, if_neg (nI_ge (by omega) (by omega)), bd1_some, nm, nm]
        obtain ⟨v, v1, v2, v3⟩ := i1 (by omega)
        refine step _ (fun _ => ⟨10 * v + tx q - 48, by omega, ?_, ?_⟩)
        · rw [v2, sb_nI (by omega), show (10 : Int32) = nI 10 from rfl, pk_mul, nI_add, pk_sub (by omega), Nat.mul_comm]
        · rw [v3, show (10 : Int32) = nI 10 from rfl, pk_mul, nI_add, show (48 : Int32) = nI 48 from rfl, pk_sub (by omega)]
    · rw [if_neg z, if_pos rfl]
      refine ⟨q, by omega, by omega, x, y, fun w => ?_, ?_, rfl⟩
      · by_cases z1 : q = s + 1
        · obtain ⟨v, v1, v2, v3⟩ := i1 z1
          exact ⟨v, by omega, v2, v3⟩
        · exact i2 (by omega)
      · by_cases y1 : tx q < 48 ∨ 128 ≤ tx q
        · rw [if_pos ((sb_lt c1 (by decide)).mpr y1)]
        · rw [if_neg (fun w => y1 ((sb_lt c1 (by decide)).mp w)), if_pos ((sb_gt c1 (by decide)).mpr (by omega))]
theorem P_tok (hn : 1000 ≤ n) (h : TX T tx tb mt) {p : Nat} (hp : p ≤ T) (xk xs xn mf ms mv mw : Int32) :
    (∃ kd s e xn' mv', TKg T tx p kd s e xn' mv' ∧ fX6_readToken n tb (nI T) xk xs (nI p) xn = some (nI kd, nI s, nI e, xn') ∧ fX9_next n mt (nI T) (nI p) mf ms mv 0 mw = some (nI e, nI s, nI kd, mv', 0, mw)) ∨
    (∃ (s : Nat) (e xn' a1 a2 a3 : Int32), s < T ∧ fX6_readToken n tb (nI T) xk xs (nI p) xn = some (5, nI s, e, xn') ∧ fX9_next n mt (nI T) (nI p) mf ms mv 0 mw = some (a1, nI s, a2, a3, 1, nI s)) := by
  have h1 := h.1
  -- behind the blanks
  have tok : ∀ s, p ≤ s → s ≤ T → (∃ kd e xn' mv', TKg T tx p kd s e xn' mv' ∧ fX6_readToken_p44 n tb (nI T) xk xs (nI s) xn = some (nI kd, nI s, nI e, xn') ∧ fX9_next_p34 n mt (nI T) (nI s) mf ms mv 0 mw = some (nI e, nI s, nI kd, mv', 0, mw)) ∨ (∃ (e xn' a1 a2 a3 : Int32), s < T ∧ fX6_readToken_p44 n tb (nI T) xk xs (nI s) xn = some (5, nI s, e, xn') ∧ fX9_next_p34 n mt (nI T) (nI s) mf ms mv 0 mw = some (a1, nI s, a2, a3, 1, nI s)) := by
    intro s hps hsT
    unfold fX6_readToken_p44 fX9_next_p34
    by_cases z : s < T
    · obtain ⟨c1, c2, c3⟩ := h.2 s (by omega)
      rw [if_pos (nI_lt z (by omega)), ar_nI (by omega) (by decide), c3, nm, nI_1, M_look h z, bd1_some, if_pos (nI_pos' (by omega)), show (97 : Int64) = lN 97 from rfl, show (122 : Int64) = lN 122 from rfl, M_in2 (by omega) (by decide) (by decide), bd1_some, show (97 : Int32) = nI 97 from rfl, show (122 : Int32) = nI 122 from rfl]
      by_cases lt : 97 ≤ tx s ∧ tx s ≤ 122
      · rw [if_neg (fun w => by have := (sb_lt c1 (by decide)).mp w; omega), if_neg (fun w => by have := (sb_gt c1 (by decide)).mp w; omega), if_pos lt, if_neg i10]
        obtain ⟨e, e1, e2, e3, e4, e5⟩ := X_word (n := n) h xk (nI s) xn (T - (s + 1)) n (s + 1) (by omega) (by omega)
        have all : ∀ i, s ≤ i → i < e → isL (tx i) := fun i a b => by
          by_cases w : i = s
          · subst w; exact lt
          · exact e3 i (by omega) b
        rw [e5, M_word h (nI s) 1 mv mw e2 e4 (e - s) n s (by omega) (by omega) all]
        exact Or.inl ⟨1, e, xn, mv, ⟨hps, by omega, e2, by decide, Or.inr (by omega), fun _ => all, fun w => by omega⟩, rfl, rfl⟩
      · have p176 : (if (nI (tx s)).toInt8.toInt32 < nI 97 then fX6_readToken_p176 n tb (nI T) xk (nI s) (nI (s + 1)) xn (nI (tx s)).toInt8.toInt32 else (if nI 122 < (nI (tx s)).toInt8.toInt32 then fX6_readToken_p176 n tb (nI T) xk (nI s) (nI (s + 1)) xn (nI (tx s)).toInt8.toInt32 else fX6_readToken_p107 n tb (nI T) xk (nI s) xn n (nI (s + 1)))) = fX6_readToken_p176 n tb (nI T) xk (nI s) (nI (s + 1)) xn (nI (tx s)).toInt8.toInt32 := by
          by_cases w : tx s < 97 ∨ 128 ≤ tx s
          · rw [if_pos ((sb_lt c1 (by decide)).mpr w)]
          · rw [if_neg (fun v => w ((sb_lt c1 (by decide)).mp v)), if_pos ((sb_gt c1 (by decide)).mpr (by omega))]
        rw [p176, if_neg lt, if_pos rfl, show (48 : Int64) = lN 48 from rfl, show (57 : Int64) = lN 57 from rfl, M_in2 (by omega) (by decide) (by decide), bd1_some]
        unfold fX6_readToken_p176
        rw [show (48 : Int32) = nI 48 from rfl, show (57 : Int32) = nI 57 from rfl]
        by_cases dg : 48 ≤ tx s ∧ tx s ≤ 57
        · rw [if_neg (fun w => by have := (sb_lt c1 (by decide)).mp w; omega), if_neg (fun w => by have := (sb_gt c1 (by decide)).mp w; omega), nm, if_pos dg, if_neg i10, sb_nI (by omega), pk_sub (by omega)]
          obtain ⟨n', hn'⟩ : ∃ q, n = q + 1 := ⟨n - 1, by omega⟩
          have m1 : fX9_next_p140 n mt (nI T) (nI s) 2 0 mw n (nI s) 0 = fX9_next_p140 n mt (nI T) (nI s) 2 0 mw n' (nI (s + 1)) (nI (tx s - 48)) := by
            rw [show fX9_next_p140 n mt (nI T) (nI s) 2 0 mw n (nI s) 0 = fX9_next_p140 n mt (nI T) (nI s) 2 0 mw (n' + 1) (nI s) 0 from by rw [← hn'], fX9_next_p140, M_look h z, bd1_some, show (48 : Int64) = lN 48 from rfl, show (57 : Int64) = lN 57 from rfl, M_in2 (by omega) (by decide) (by decide), bd1_some, if_pos dg, if_neg i10, pk_sub (Nat.le_refl s), show (2 : Int32) = nI 2 from rfl, if_neg (nI_ge (by omega) (by omega)), bd1_some, nm, nm, nI_1, show (10 : Int32) = nI 10 from rfl, i0nI, pk_mul, nI_add, show (48 : Int32) = nI 48 from rfl, pk_sub (by omega), show 10 * 0 + tx s - 48 = tx s - 48 from by omega]
          obtain ⟨e, e1, e2, x', y', e3, e4, e5⟩ := P_num (n := n) (s := s) h xk mw (T - (s + 1)) n n' (s + 1) (nI (tx s - 48)) (nI (tx s - 48)) (by omega) (by omega) (by omega) (by omega) (fun _ => ⟨tx s - 48, by omega, rfl, rfl⟩) (fun w => by omega)
          rw [e4, m1, e5]
          unfold fX6_readToken_p284 fX9_next_p217
          rw [pk_sub (by omega)]
          by_cases two : e - s ≤ 2
          · rw [show (2 : Int32) = nI 2 from rfl, if_pos (nI_le two (by omega)), if_neg (nI_nlt two (by omega)), wants1, bd2_some]
            exact Or.inl ⟨2, e, x', y', ⟨hps, by omega, e2, by decide, Or.inr (by omega), fun w => by omega, fun _ => e3 two⟩, rfl, rfl⟩
          · rw [show (2 : Int32) = nI 2 from rfl, if_neg (nI_ge (by omega) (by omega)), if_pos (nI_lt (by omega) (by omega)), wants0, bd2_some]
            exact Or.inr ⟨_, _, _, _, _, z, rfl, rfl⟩
        · have p309 : (if (nI (tx s)).toInt8.toInt32 < nI 48 then fX6_readToken_p309 n xk (nI s) (nI (s + 1)) xn (nI (tx s)).toInt8.toInt32 else (if nI 57 < (nI (tx s)).toInt8.toInt32 then fX6_readToken_p309 n xk (nI s) (nI (s + 1)) xn (nI (tx s)).toInt8.toInt32 else nm ((nI (tx s)).toInt8.toInt32 - nI 48) (fun v3 => fX6_readToken_p196 n tb (nI T) xk (nI s) n (nI (s + 1)) v3))) = fX6_readToken_p309 n xk (nI s) (nI (s + 1)) xn (nI (tx s)).toInt8.toInt32 := by
            by_cases w : tx s < 48 ∨ 128 ≤ tx s
            · rw [if_pos ((sb_lt c1 (by decide)).mpr w)]
            · rw [if_neg (fun v => w ((sb_lt c1 (by decide)).mp v)), if_pos ((sb_gt c1 (by decide)).mpr (by omega))]
          rw [p309, if_neg dg, if_pos rfl]
          unfold fX6_readToken_p309 fX9_next_p255
          rw [show (59 : Int32) = nI 59 from rfl, show (44 : Int32) = nI 44 from rfl]
          by_cases a1 : tx s = 59
          · rw [if_pos ((sb_eq c1 (by decide)).mpr a1), if_pos (by rw [a1]), if_pos (by rw [a1]), wants1, bd2_some, nm, nI_1]
            exact Or.inl ⟨3, s + 1, xn, mv, ⟨hps, by omega, by omega, by decide, Or.inr (by omega), fun w => by omega, fun w => by omega⟩, rfl, rfl⟩
          · have na1 : ¬ nI (tx s) = nI 59 := by rw [nI_eq (by omega) (by omega)]; exact a1
            rw [if_neg (fun w => a1 ((sb_eq c1 (by decide)).mp w)), if_neg na1, if_neg na1]
            by_cases a2 : tx s = 44
            · rw [if_pos ((sb_eq c1 (by decide)).mpr a2), if_pos (by rw [a2]), wants1, bd2_some, nm, nI_1]
              exact Or.inl ⟨4, s + 1, xn, mv, ⟨hps, by omega, by omega, by decide, Or.inr (by omega), fun w => by omega, fun w => by omega⟩, rfl, rfl⟩
            · have na2 : ¬ nI (tx s) = nI 44 := by rw [nI_eq (by omega) (by omega)]; exact a2
              rw [if_neg (fun w => a2 ((sb_eq c1 (by decide)).mp w)), if_neg na2, wants0, bd2_some]
              exact Or.inr ⟨_, _, _, _, _, z, rfl, rfl⟩
    · rw [if_neg (nI_nlt (by omega) (by omega)), M_look_e h (by omega) (by omega), bd1_some, if_neg (by decide)]
      exact Or.inl ⟨0, s, xn, mv, ⟨hps, Nat.le_refl _, by omega, by decide, Or.inl rfl, fun w => by omega, fun w => by omega⟩, rfl, rfl⟩
  have skip : ∀ (d k k' q : Nat), q + d = T → d < k → d < k' → p ≤ q → ∃ s, p ≤ s ∧ s ≤ T ∧ fX6_readToken_p0 n tb (nI T) xk xs xn k (nI q) = fX6_readToken_p44 n tb (nI T) xk xs (nI s) xn ∧ fX9_next_p8 n mt (nI T) mf ms mv 0 mw k' (nI q) = fX9_next_p34 n mt (nI T) (nI s) mf ms mv 0 mw := by
    intro d
    induction d with
    | zero =>
      intro k k' q hq hk hk' hpq
      obtain ⟨k, rfl⟩ : ∃ q, k = q + 1 := ⟨k - 1, by omega⟩
      obtain ⟨k', rfl⟩ : ∃ q, k' = q + 1 := ⟨k' - 1, by omega⟩
      rw [fX6_readToken_p0, if_pos (nI_le (by omega) (by omega)), fX9_next_p8, M_look_e h (by omega) (by omega), bd1_some, if_neg (by decide)]
      exact ⟨q, hpq, by omega, rfl, rfl⟩
    | succ d ih =>
      intro k k' q hq hk hk' hpq
      obtain ⟨k, rfl⟩ : ∃ q, k = q + 1 := ⟨k - 1, by omega⟩
      obtain ⟨k', rfl⟩ : ∃ q, k' = q + 1 := ⟨k' - 1, by omega⟩
      obtain ⟨c1, c2, c3⟩ := h.2 q (by omega)
      rw [fX6_readToken_p0, if_neg (nI_ge (by omega) (by omega)), ar_nI (by omega) (by decide), c3, fX9_next_p8, M_look h (by omega), bd1_some, show (32 : Int32) = nI 32 from rfl]
      by_cases z : tx q = 32
      · rw [if_pos ((sb_eq c1 (by decide)).mpr z), if_pos (by rw [z]), nm, nm, nI_1]
        exact ih k k' (q + 1) (by omega) (by omega) (by omega) (by omega)
      · rw [if_neg (fun w => z ((sb_eq c1 (by decide)).mp w)), if_neg (by rw [nI_eq (by omega) (by omega)]; exact z)]
        exact ⟨q, hpq, by omega, rfl, rfl⟩
  unfold fX6_readToken fX9_next
  rw [if_pos (by decide)]
  obtain ⟨s, s1, s2, s3, s4⟩ := skip (T - p) n n p (by omega) (by omega) (by omega) (Nat.le_refl _)
  rw [s3, s4]
  rcases tok s s1 s2 with ⟨kd, e, xn', mv', t1, t2, t3⟩ | ⟨e, xn', a1, a2, a3, t1, t2, t3⟩
  · exact Or.inl ⟨kd, s, e, xn', mv', t1, t2, t3⟩
  · exact Or.inr ⟨s, e, xn', a1, a2, a3, t1, t2, t3⟩
end TK

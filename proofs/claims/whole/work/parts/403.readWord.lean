/-! the text: a line that tells a word -/
section RW
def enc (f : Nat → Nat) : Nat → Nat
  | 0 => 0
  | k + 1 => enc f k * 32 + f k + 1
theorem enc_lt {f : Nat → Nat} : ∀ {k : Nat}, (∀ i, i < k → f i < 26) → enc f k < 32 ^ k
  | 0, _ => Nat.one_pos
  | k + 1, h => by
    have a := enc_lt (f := f) (k := k) (fun i hi => h i (by omega))
    have b := h k (by omega)
    rw [enc, Nat.pow_succ]
    omega
theorem enc_inj {f g : Nat → Nat} : ∀ {a b : Nat}, (∀ i, i < a → f i < 26) → (∀ i, i < b → g i < 26) → enc f a = enc g b → a = b ∧ ∀ i, i < a → f i = g i
  | 0, 0, _, _, _ => ⟨rfl, fun i hi => by omega⟩
  | 0, b + 1, _, _, e => by
    rw [enc, enc] at e
    omega
  | a + 1, 0, _, _, e => by
    rw [enc, enc] at e
    omega
  | a + 1, b + 1, hf, hg, e => by
    have x := hf a (by omega)
    have y := hg b (by omega)
    rw [enc, enc] at e
    obtain ⟨r, s⟩ := enc_inj (f := f) (g := g) (a := a) (b := b) (fun i hi => hf i (by omega)) (fun i hi => hg i (by omega)) (by omega)
    subst r
    refine ⟨rfl, fun i hi => ?_⟩
    by_cases z : i = a
    · subst z
      omega
    · exact s i (by omega)
theorem enc_cong {f g : Nat → Nat} : ∀ {a : Nat}, (∀ i, i < a → f i = g i) → enc f a = enc g a
  | 0, _ => rfl
  | a + 1, h => by rw [enc, enc, enc_cong (fun i hi => h i (by omega)), h a (by omega)]
theorem enc40 {f : Nat → Nat} {k : Nat} (hk : k ≤ 8) (h : ∀ i, i < k → f i < 26) : enc f k < 2 ^ 63 :=
  Nat.lt_of_lt_of_le (enc_lt h) (Nat.le_trans (Nat.pow_le_pow_right (by decide : 0 < 32) hk) (by decide))
variable {n T : Nat} {tx : Nat → Nat} {tb mt : Nat → Int32}
/-- the letters of the word at s -/
def lf (tx : Nat → Nat) (s i : Nat) : Nat := tx (s + i) - 97
theorem lf_lt {s L : Nat} (hl : ∀ i, s ≤ i → i < s + L → isL (tx i)) {i : Nat} (hi : i < L) : lf tx s i < 26 := by
  have : 97 ≤ tx (s + i) ∧ tx (s + i) ≤ 122 := hl (s + i) (by omega) (by omega)
  unfold lf
  omega
theorem X_lat (h : TX T tx tb mt) {s L i : Nat} (hl : ∀ i, s ≤ i → i < s + L → isL (tx i)) (hi : i < L) (hT : s + L ≤ T) : fX6_letterAt n tb (nI (s + i)) = some (nI (lf tx s i)) := X_letterAt h (by omega) (hl _ (by omega) (by omega))
theorem M_lat (h : TX T tx tb mt) {s L i : Nat} (hi : i < L) (hT : s + L ≤ T) : fX9_look n mt (nI T) (nI s + nI i) = some (nI (tx (s + i))) := by
  rw [nI_add]
  exact M_look h (by omega)
theorem lf_97 {s L i : Nat} (hl : ∀ i, s ≤ i → i < s + L → isL (tx i)) (hi : i < L) : nI (tx (s + i)) - 97 = nI (lf tx s i) := M_sub97 (hl _ (by omega) (by omega))
theorem X_told (hn : 1000 ≤ n) (h : TX T tx tb mt) {s L : Nat} (hl : ∀ i, s ≤ i → i < s + L → isL (tx i)) (hT : s + L ≤ T) (lm : Nat → Int32) : ∀ (d k i : Nat), i + d = L → d < k →
    ((∀ j, i ≤ j → j < L → ¬ lm (lf tx s j) = -1) → fX6_allLettersTold_p5 n tb (nI (s + L)) lm k (nI (s + i)) = some 1) ∧ ((∃ j, i ≤ j ∧ j < L ∧ lm (lf tx s j) = -1) → fX6_allLettersTold_p5 n tb (nI (s + L)) lm k (nI (s + i)) = some 0) := by
  have h1 := h.1
  intro d
  induction d with
  | zero =>
    intro k i hi hk
    obtain ⟨k, rfl⟩ : ∃ q, k = q + 1 := ⟨k - 1, by omega⟩
    rw [fX6_allLettersTold_p5, if_pos (nI_le (by omega) (by omega))]
    exact ⟨fun _ => rfl, fun ⟨j, a, b, _⟩ => by omega⟩
  | succ d ih =>
    intro k i hi hk
    obtain ⟨k, rfl⟩ : ∃ q, k = q + 1 := ⟨k - 1, by omega⟩
    have l26 := lf_lt hl (i := i) (by omega)
    obtain ⟨r1, r2⟩ := ih k (i + 1) (by omega) (by omega)
    rw [fX6_allLettersTold_p5, if_neg (nI_ge (by omega) (by omega)), X_lat h hl (by omega) hT, bd1_some, ar_nI (by omega) (by decide), nI_1, Nat.add_assoc]
    by_cases z : lm (lf tx s i) = -1
    · rw [if_pos z]
      exact ⟨fun w => absurd z (w i (Nat.le_refl _) (by omega)), fun _ => rfl⟩
    · rw [if_neg z]
      refine ⟨fun w => r1 (fun j a b => w j (by omega) b), fun ⟨j, a, b, c⟩ => r2 ⟨j, ?_, b, c⟩⟩
      by_cases y : j = i
      · subst y
        exact absurd c z
      · omega
theorem X_name (hn : 1000 ≤ n) (h : TX T tx tb mt) {s L : Nat} (hl : ∀ i, s ≤ i → i < s + L → isL (tx i)) (hT : s + L ≤ T) : fX6_nameRead n tb (nI s) (nI (s + L)) = some (lN (enc (lf tx s) L)) := by
  have h1 := h.1
  have loop : ∀ (d k i : Nat), i + d = L → d < k → fX6_nameRead_p7 n tb (nI (s + L)) k (lN (enc (lf tx s) i)) (nI (s + i)) = some (lN (enc (lf tx s) L)) := by
    intro d
    induction d with
    | zero =>
      intro k i hi hk
      obtain ⟨k, rfl⟩ : ∃ q, k = q + 1 := ⟨k - 1, by omega⟩
      rw [fX6_nameRead_p7, if_pos (nI_le (by omega) (by omega)), show i = L from by omega]
    | succ d ih =>
      intro k i hi hk
      obtain ⟨k, rfl⟩ : ∃ q, k = q + 1 := ⟨k - 1, by omega⟩
      have l26 := lf_lt hl (i := i) (by omega)
      have r := ih k (i + 1) (by omega) (by omega)
      rw [fX6_nameRead_p7, if_neg (nI_ge (by omega) (by omega)), X_lat h hl (by omega) hT, bd1_some, nm, nI_l (by omega), show (32 : Int64) = lN 32 from rfl, lN_mul, lN_add, lN_1, nI_1, Nat.add_assoc]
      exact r
  have := loop L n 0 (by omega) (by omega)
  unfold fX6_nameRead
  exact this
theorem X_hasName {W : Nat} (hW : W ≤ 16) (hn : 1000 ≤ n) (names : Nat → Int64) (x : Int64) : ((∀ w, w < W → ¬ names w = x) → fX7_hasName n names (nI W) x = some 0) ∧ ((∃ w, w < W ∧ names w = x) → fX7_hasName n names (nI W) x = some 1) := by
  have loop : ∀ (d k i : Nat), i + d = W → d < k → ((∀ w, i ≤ w → w < W → ¬ names w = x) → fX7_hasName_p2 n names (nI W) x k (nI i) = some 0) ∧ ((∃ w, i ≤ w ∧ w < W ∧ names w = x) → fX7_hasName_p2 n names (nI W) x k (nI i) = some 1) := by
    intro d
    induction d with
    | zero =>
      intro k i hi hk
      obtain ⟨k, rfl⟩ : ∃ q, k = q + 1 := ⟨k - 1, by omega⟩
      rw [fX7_hasName_p2, if_pos (nI_le (by omega) (by omega))]
      exact ⟨fun _ => rfl, fun ⟨w, a, b, _⟩ => by omega⟩
    | succ d ih =>
      intro k i hi hk
      obtain ⟨k, rfl⟩ : ∃ q, k = q + 1 := ⟨k - 1, by omega⟩
      obtain ⟨r1, r2⟩ := ih k (i + 1) (by omega) (by omega)
      rw [fX7_hasName_p2, if_neg (nI_ge (by omega) (by omega)), ar_nI (by omega) (by decide), nI_1]
      by_cases z : names i = x
      · rw [if_pos ((lg0 _ _).mpr z)]
        exact ⟨fun w => absurd z (w i (Nat.le_refl _) (by omega)), fun _ => rfl⟩
      · rw [if_neg (fun q => z ((lg0 _ _).mp q))]
        refine ⟨fun w => r1 (fun j a b => w j (by omega) b), fun ⟨j, a, b, c⟩ => r2 ⟨j, ?_, b, c⟩⟩
        by_cases y : j = i
        · subst y
          exact absurd c z
        · omega
  obtain ⟨r1, r2⟩ := loop W n 0 (by omega) (by omega)
  unfold fX7_hasName
  exact ⟨fun w => r1 (fun j _ b => w j b), fun ⟨w, a, b⟩ => r2 ⟨w, Nat.zero_le _, a, b⟩⟩
/-- the mark of a letter -/
def mkOf (dl : Nat → Int32) (k : Nat) : Nat := (dl k).toNatClampNeg
theorem mkOf_DL {lm dl : Nat → Int32} (hL : DL lm dl) {k : Nat} (hk : k < 26) (h : ¬ lm k = -1) : dl k = nI (mkOf dl k) ∧ ((lm k = -2 ∧ mkOf dl k = 30) ∨ (lm k = nI (mkOf dl k) ∧ mkOf dl k ≤ 20)) := by
  unfold mkOf
  rcases hL k hk with ⟨a, b⟩ | ⟨a, b⟩ | ⟨v, c, a, b⟩
  · exact absurd a h
  · rw [b, nI_clamp (by decide)]
    exact ⟨rfl, Or.inl ⟨a, rfl⟩⟩
  · rw [b, nI_clamp (by omega)]
    exact ⟨rfl, Or.inr ⟨a, c⟩⟩
theorem X_speech (hn : 1000 ≤ n) (h : TX T tx tb mt) {s L : Nat} (hL8 : L ≤ 8) (hl : ∀ i, s ≤ i → i < s + L → isL (tx i)) (hT : s + L ≤ T) {lm dl : Nat → Int32} (hL : DL lm dl) (ht : ∀ j, j < L → ¬ lm (lf tx s j) = -1) : fX6_speechRead n tb (nI s) (nI (s + L)) lm = some (lN (pkl (spc (fun i => mkOf dl (lf tx s i)) L))) := by
  have h1 := h.1
  have ok : ∀ i, i < L → mkOf dl (lf tx s i) ≤ 20 ∨ mkOf dl (lf tx s i) = 30 := fun i hi => by
    rcases (mkOf_DL hL (lf_lt hl hi) (ht i hi)).2 with ⟨_, b⟩ | ⟨_, b⟩
    · exact Or.inr b
    · exact Or.inl b
  have loop : ∀ (d k i : Nat), i + d = L → d < k → fX6_speechRead_p10 n tb (nI (s + L)) lm k (lN (pkl (spc (fun i => mkOf dl (lf tx s i)) i))) (nI (spc (fun i => mkOf dl (lf tx s i)) i).length) (nI (s + i)) = some (lN (pkl (spc (fun i => mkOf dl (lf tx s i)) L))) := by
    intro d
    induction d with
    | zero =>
      intro k i hi hk
      obtain ⟨k, rfl⟩ : ∃ q, k = q + 1 := ⟨k - 1, by omega⟩
      rw [fX6_speechRead_p10, if_pos (nI_le (by omega) (by omega)), show i = L from by omega]
    | succ d ih =>
      intro k i hi hk
      obtain ⟨k, rfl⟩ : ∃ q, k = q + 1 := ⟨k - 1, by omega⟩
      have l26 := lf_lt hl (i := i) (by omega)
      have r := ih k (i + 1) (by omega) (by omega)
      have len := (spc_ok (f := fun i => mkOf dl (lf tx s i)) (n := i) (fun j hj => ok j (by omega))).1
      have okl := spc_okL (f := fun i => mkOf dl (lf tx s i)) (n := i) (by omega) (fun j hj => ok j (by omega))
      rw [fX6_speechRead_p10, if_neg (nI_ge (by omega) (by omega)), X_lat h hl (by omega) hT, bd1_some, ar_nI (by omega) (by decide), nI_1 (s + i), Nat.add_assoc]
      rw [spc] at r
      rcases (mkOf_DL hL l26 (ht i (by omega))).2 with ⟨a, b⟩ | ⟨a, b⟩
      · rw [if_pos a]
        rw [if_pos b] at r
        exact r
      · rw [if_neg (by rw [a]; exact m2_ne (by omega)), a, X_with okl b (by omega), bd1_some, nI_1]
        rw [if_neg (show ¬ mkOf dl (lf tx s i) = 30 from by omega), List.length_append] at r
        exact r
  have := loop L n 0 (by omega) (by omega)
  unfold fX6_speechRead
  exact this
section MW
variable {dl dM dT : Nat → Int32} {dw td pos fr so va F wr x1 x2 : Int32}
theorem rw105_F {k : Nat} (h0 : ¬ F = 0) (h1 : ¬ F ≤ 0) : fX9_readWord_p105 n dw dM dT mt td pos fr so va x1 (k + 1) F wr x2 = some (dw, dM, dT, pos, fr, so, va, F, wr) := by
  rw [fX9_readWord_p105]
  by_cases z : dw ≤ x2
  · rw [if_pos z, if_neg h0, next_F h1, bd6_some]
  · rw [if_neg z, if_neg h0, if_neg h0, next_F h1, bd6_some]
theorem rw53_F {k : Nat} (hn : 1000 ≤ n) (h0 : ¬ F = 0) (h1 : ¬ F ≤ 0) : fX9_readWord_p53 n dl dw dM dT mt td pos fr so va x1 (k + 1) F wr x2 = some (dw, dM, dT, pos, fr, so, va, F, wr) := by
  obtain ⟨n', e⟩ : ∃ q, n = q + 1 := ⟨n - 1, by omega⟩
  have r : fX9_readWord_p105 n dw dM dT mt td pos fr so va x1 n F wr 0 = some (dw, dM, dT, pos, fr, so, va, F, wr) := by
    have := rw105_F (n := n) (dM := dM) (dT := dT) (mt := mt) (dw := dw) (td := td) (pos := pos) (fr := fr) (so := so) (va := va) (wr := wr) (x1 := x1) (x2 := 0) (k := n') h0 h1
    rw [← e] at this
    exact this
  rw [fX9_readWord_p53]
  by_cases z : x1 ≤ x2
  · rw [if_pos z, r]
  · rw [if_neg z, if_neg h0, r]
theorem rw14_0 (hn : 1000 ≤ n) : fX9_readWord_p14 n dl dw dM dT mt td pos fr so va 0 wr 0 = some (dw, dM, dT, pos, fr, so, va, 2, fr) := by
  obtain ⟨n', e⟩ : ∃ q, n = q + 1 := ⟨n - 1, by omega⟩
  have r : fX9_readWord_p53 n dl dw dM dT mt td pos fr so va (pos - fr) n 2 fr 0 = some (dw, dM, dT, pos, fr, so, va, 2, fr) := by
    have := rw53_F (dl := dl) (dM := dM) (dT := dT) (mt := mt) (dw := dw) (td := td) (pos := pos) (fr := fr) (so := so) (va := va) (F := 2) (wr := fr) (x1 := pos - fr) (x2 := 0) (k := n') hn (by decide) (by decide)
    rw [← e] at this
    exact this
  unfold fX9_readWord_p14
  rw [wants0, bd2_some, nm, if_neg (by decide), r]
end MW
section MX
variable {dl dM dT : Nat → Int32} {dw so va wr : Int32} {s L : Nat}
theorem M_told (hn : 1000 ≤ n) (h : TX T tx tb mt) (hl : ∀ i, s ≤ i → i < s + L → isL (tx i)) (hT : s + L ≤ T) : ∀ (d k i : Nat), i + d = L → d < k →
    ((∀ j, i ≤ j → j < L → ¬ dl (lf tx s j) = -1) → fX9_readWord_p53 n dl dw dM dT mt (nI T) (nI (s + L)) (nI s) so va (nI L) k 0 wr (nI i) = fX9_readWord_p105 n dw dM dT mt (nI T) (nI (s + L)) (nI s) so va (nI L) n 0 wr 0) ∧ ((∃ j, i ≤ j ∧ j < L ∧ dl (lf tx s j) = -1) → fX9_readWord_p53 n dl dw dM dT mt (nI T) (nI (s + L)) (nI s) so va (nI L) k 0 wr (nI i) = some (dw, dM, dT, nI (s + L), nI s, so, va, 5, nI s)) := by
  have h1 := h.1
  intro d
  induction d with
  | zero =>
    intro k i hi hk
    obtain ⟨k, rfl⟩ : ∃ q, k = q + 1 := ⟨k - 1, by omega⟩
    rw [fX9_readWord_p53, if_pos (nI_le (by omega) (by omega))]
    exact ⟨fun _ => rfl, fun ⟨j, a, b, _⟩ => by omega⟩
  | succ d ih =>
    intro k i hi hk
    obtain ⟨k, rfl⟩ : ∃ q, k = q + 1 := ⟨k - 1, by omega⟩
    have l26 := lf_lt hl (i := i) (by omega)
    obtain ⟨r1, r2⟩ := ih k (i + 1) (by omega) (by omega)
    rw [fX9_readWord_p53, if_neg (nI_ge (by omega) (by omega)), if_pos rfl, M_lat h (i := i) (L := L) (by omega) hT, bd1_some, lf_97 hl (by omega), ar_nI (by omega) (by decide), nI_1]
    by_cases z : dl (lf tx s i) = -1
    · obtain ⟨k, rfl⟩ : ∃ q, k = q + 1 := ⟨k - 1, by omega⟩
      rw [if_pos z, wants0, bd2_some, rw53_F hn (by decide) (by decide)]
      exact ⟨fun w => absurd z (w i (Nat.le_refl _) (by omega)), fun _ => rfl⟩
    · rw [if_neg z, wants1, bd2_some]
      refine ⟨fun w => r1 (fun j a b => w j (by omega) b), fun ⟨j, a, b, c⟩ => r2 ⟨j, ?_, b, c⟩⟩
      by_cases y : j = i
      · subst y
        exact absurd c z
      · omega
theorem M_same0 {k : Nat} {x1 x3 td fr : Int32} {v : Nat} (hv : v < 16) (e : x1 = nI v) : fX9_isSameWord_p26 n dM dT mt td fr x1 (k + 1) 0 x3 = some 0 := by
  rw [fX9_isSameWord_p26, e, ar_nI hv (by decide)]
  by_cases z : dM v ≤ x3
  · rw [if_pos z, rb_0]
  · rw [if_neg z, if_pos rfl, rb_0]
theorem M_same (hn : 1000 ≤ n) (h : TX T tx tb mt) (hL8 : L ≤ 8) (hl : ∀ i, s ≤ i → i < s + L → isL (tx i)) (hT : s + L ≤ T) {w lw : Nat} {lt : Nat → Nat} (hw : w < 16) (h8 : lw ≤ 8) (hm : dM w = nI lw) (ht : ∀ i, i < lw → lt i < 26 ∧ dT (8 * w + i) = nI (lt i)) :
    ((lw = L ∧ ∀ i, i < L → lt i = lf tx s i) → fX9_isSameWord n dM dT mt (nI T) (nI (s + L)) (nI s) (nI w) = some 1) ∧ (¬ (lw = L ∧ ∀ i, i < L → lt i = lf tx s i) → fX9_isSameWord n dM dT mt (nI T) (nI (s + L)) (nI s) (nI w) = some 0) := by
  have h1 := h.1
  obtain ⟨n', e⟩ : ∃ q, n = q + 1 := ⟨n - 1, by omega⟩
  unfold fX9_isSameWord
  rw [ar_nI hw (by decide), hm, pk_sub (by omega), show s + L - s = L from by omega]
  by_cases z : lw = L
  · subst z
    rw [if_pos rfl]
    have loop : ∀ (d k i : Nat), i + d = lw → d < k → ((∀ j, i ≤ j → j < lw → lt j = lf tx s j) → fX9_isSameWord_p26 n dM dT mt (nI T) (nI s) (nI w) k 1 (nI i) = some 1) ∧ ((∃ j, i ≤ j ∧ j < lw ∧ ¬ lt j = lf tx s j) → fX9_isSameWord_p26 n dM dT mt (nI T) (nI s) (nI w) k 1 (nI i) = some 0) := by
      intro d
      induction d with
      | zero =>
        intro k i hi hk
        obtain ⟨k, rfl⟩ : ∃ q, k = q + 1 := ⟨k - 1, by omega⟩
        rw [fX9_isSameWord_p26, ar_nI hw (by decide), hm, if_pos (nI_le (by omega) (by omega)), rb_1]
        exact ⟨fun _ => rfl, fun ⟨j, a, b, _⟩ => by omega⟩
      | succ d ih =>
        intro k i hi hk
        obtain ⟨k, rfl⟩ : ∃ q, k = q + 1 := ⟨k - 1, by omega⟩
        obtain ⟨t1, t2⟩ := ht i (by omega)
        have l26 := lf_lt hl (i := i) (by omega)
        obtain ⟨r1, r2⟩ := ih k (i + 1) (by omega) (by omega)
        rw [fX9_isSameWord_p26, ar_nI hw (by decide), hm, if_neg (nI_ge (by omega) (by omega)), if_neg i10, show (8 : Int32) = nI 8 from rfl, pk_mul, nI_add, ar_nI (by omega) (by decide), t2, M_lat h (i := i) (L := lw) (by omega) hT, bd1_some, lf_97 hl (by omega), nI_1]
        by_cases y : lt i = lf tx s i
        · rw [if_pos (by rw [y])]
          refine ⟨fun w => r1 (fun j a b => w j (by omega) b), fun ⟨j, a, b, c⟩ => r2 ⟨j, ?_, b, c⟩⟩
          by_cases u : j = i
          · subst u
            exact absurd y c
          · omega
        · obtain ⟨k, rfl⟩ : ∃ q, k = q + 1 := ⟨k - 1, by omega⟩
          rw [if_neg (by rw [nI_eq (by omega) (by omega)]; exact y), M_same0 hw rfl]
          exact ⟨fun w => absurd (w i (Nat.le_refl _) (by omega)) y, fun _ => rfl⟩
    obtain ⟨r1, r2⟩ := loop lw n 0 (by omega) (by omega)
    refine ⟨fun q => r1 (fun j _ b => q.2 j b), fun q => r2 ?_⟩
    apply Classical.byContradiction
    intro w
    apply q
    refine ⟨rfl, fun i hi => ?_⟩
    apply Classical.byContradiction
    intro v
    exact w ⟨i, Nat.zero_le _, hi, v⟩
  · rw [if_neg (by rw [nI_eq (by omega) (by omega)]; exact z)]
    have r := M_same0 (n := n) (dM := dM) (dT := dT) (mt := mt) (k := n') (x1 := nI w) (x3 := 0) (td := nI T) (fr := nI s) hw rfl
    rw [← e] at r
    rw [r]
    exact ⟨fun q => absurd q.1 z, fun _ => rfl⟩
/-- the words of the draft -/
def DWm (W : Nat) (ln : Nat → Nat) (lt : Nat → Nat → Nat) (dM dT : Nat → Int32) : Prop := W ≤ 16 ∧ ∀ w, w < W → 1 ≤ ln w ∧ ln w ≤ 8 ∧ dM w = nI (ln w) ∧ ∀ i, i < ln w → lt w i < 26 ∧ dT (8 * w + i) = nI (lt w i)
theorem M_dup (hn : 1000 ≤ n) (h : TX T tx tb mt) (hL8 : L ≤ 8) (hl : ∀ i, s ≤ i → i < s + L → isL (tx i)) (hT : s + L ≤ T) {W : Nat} {ln : Nat → Nat} {lt : Nat → Nat → Nat} (hD : DWm W ln lt dM dT) :
    ((∀ w, w < W → ¬ (ln w = L ∧ ∀ i, i < L → lt w i = lf tx s i)) → fX9_readWord_p105 n (nI W) dM dT mt (nI T) (nI (s + L)) (nI s) so va (nI L) n 0 wr 0 = fX9_readWord_p153 n (nI W) dM mt (nI T) (nI (s + L)) (nI s) so va 0 wr (nI L) n dT 0) ∧ ((∃ w, w < W ∧ (ln w = L ∧ ∀ i, i < L → lt w i = lf tx s i)) → fX9_readWord_p105 n (nI W) dM dT mt (nI T) (nI (s + L)) (nI s) so va (nI L) n 0 wr 0 = some (nI W, dM, dT, nI (s + L), nI s, so, va, 4, nI s)) := by
  have hW := hD.1
  have loop : ∀ (d k i : Nat), i + d = W → d < k → ((∀ w, i ≤ w → w < W → ¬ (ln w = L ∧ ∀ i, i < L → lt w i = lf tx s i)) → fX9_readWord_p105 n (nI W) dM dT mt (nI T) (nI (s + L)) (nI s) so va (nI L) k 0 wr (nI i) = fX9_readWord_p153 n (nI W) dM mt (nI T) (nI (s + L)) (nI s) so va 0 wr (nI L) n dT 0) ∧ ((∃ w, i ≤ w ∧ w < W ∧ (ln w = L ∧ ∀ i, i < L → lt w i = lf tx s i)) → fX9_readWord_p105 n (nI W) dM dT mt (nI T) (nI (s + L)) (nI s) so va (nI L) k 0 wr (nI i) = some (nI W, dM, dT, nI (s + L), nI s, so, va, 4, nI s)) := by
    intro d
    induction d with
    | zero =>
      intro k i hi hk
      obtain ⟨k, rfl⟩ : ∃ q, k = q + 1 := ⟨k - 1, by omega⟩
      rw [fX9_readWord_p105, if_pos (nI_le (by omega) (by omega)), if_pos rfl]
      exact ⟨fun _ => rfl, fun ⟨w, a, b, _⟩ => by omega⟩
    | succ d ih =>
      intro k i hi hk
      obtain ⟨k, rfl⟩ : ∃ q, k = q + 1 := ⟨k - 1, by omega⟩
      obtain ⟨d1, d2, d3, d4⟩ := hD.2 i (by omega)
      obtain ⟨r1, r2⟩ := ih k (i + 1) (by omega) (by omega)
      obtain ⟨y1, y2⟩ := M_same hn h hL8 hl hT (w := i) (lw := ln i) (lt := lt i) (dM := dM) (dT := dT) (by omega) d2 d3 d4
      rw [fX9_readWord_p105, if_neg (nI_ge (by omega) (by omega)), if_pos rfl, nI_1]
      by_cases z : ln i = L ∧ ∀ j, j < L → lt i j = lf tx s j
      · obtain ⟨k, rfl⟩ : ∃ q, k = q + 1 := ⟨k - 1, by omega⟩
        rw [y1 z, bd1_some, if_neg i10, wants0, bd2_some, rw105_F (by decide) (by decide)]
        exact ⟨fun w => absurd z (w i (Nat.le_refl _) (by omega)), fun _ => rfl⟩
      · rw [y2 z, bd1_some, if_pos rfl, wants1, bd2_some]
        refine ⟨fun w => r1 (fun j a b => w j (by omega) b), fun ⟨j, a, b, c⟩ => r2 ⟨j, ?_, b, c⟩⟩
        by_cases u : j = i
        · subst u
          exact absurd c z
        · omega
  obtain ⟨r1, r2⟩ := loop W n 0 (by omega) (by omega)
  exact ⟨fun q => r1 (fun j _ b => q j b), fun ⟨w, a, b⟩ => r2 ⟨w, Nat.zero_le _, a, b⟩⟩
theorem M_copyW (hn : 1000 ≤ n) (h : TX T tx tb mt) (hL8 : L ≤ 8) (hl : ∀ i, s ≤ i → i < s + L → isL (tx i)) (hT : s + L ≤ T) {W : Nat} (hW : W < 16) : ∀ (d k i : Nat) (dT' : Nat → Int32), i + d = L → d < k → (∀ j, j < i → dT' (8 * W + j) = nI (lf tx s j)) → (∀ j, j < 8 * W → dT' j = dT j) →
    ∃ dT'', (∀ j, j < L → dT'' (8 * W + j) = nI (lf tx s j)) ∧ (∀ j, j < 8 * W → dT'' j = dT j) ∧ fX9_readWord_p153 n (nI W) dM mt (nI T) (nI (s + L)) (nI s) so va 0 wr (nI L) k dT' (nI i) = fX9_readWord_p191 n (nI W) dM dT'' mt (nI T) (nI (s + L)) (nI s) so va 0 wr (nI L) := by
  have h1 := h.1
  intro d
  induction d with
  | zero =>
    intro k i dT' hi hk c1 c2
    obtain ⟨k, rfl⟩ : ∃ q, k = q + 1 := ⟨k - 1, by omega⟩
    rw [fX9_readWord_p153, if_pos (nI_le (by omega) (by omega))]
    exact ⟨dT', fun j hj => c1 j (by omega), c2, rfl⟩
  | succ d ih =>
    intro k i dT' hi hk c1 c2
    obtain ⟨k, rfl⟩ : ∃ q, k = q + 1 := ⟨k - 1, by omega⟩
    rw [fX9_readWord_p153, if_neg (nI_ge (by omega) (by omega)), M_lat h (i := i) (L := L) (by omega) hT, bd1_some, show (8 : Int32) = nI 8 from rfl, pk_mul, nI_add, aw_nI (by omega) (by decide), lf_97 hl (by omega), nI_1]
    refine ih k (i + 1) _ (by omega) (by omega) (fun j hj => ?_) (fun j hj => ?_)
    · by_cases z : j = i
      · subst z
        exact pk_us
      · rw [pk_un (by omega)]
        exact c1 j (by omega)
    · rw [pk_un (by omega)]
      exact c2 j hj
end MX
end RW

/-! the text: all lines; tongue -/
section TT
variable {n T : Nat} {tx : Nat → Nat} {tb mt : Nat → Int32}
section TM
variable {mL wM wL aW : Nat → Int32} {mW mA : Int32}
theorem tg83_F {dl dM dT dA : Nat → Int32} {dw das y1 y2 y3 y4 td : Int32} {F A : Nat} (h0 : 0 < F) (h6 : F ≤ 6) : fX9_tongue_p83 n mL mW wM wL mA aW dl dw dM dT das dA td y1 y2 y3 y4 (nI F) (nI A) = some (-10 - nI A, mL, mW, wM, wL, mA, aW, dl, dw, dM, dT, das, dA, 0, y1, y2, y3, y4, nI F, nI A) := by
  unfold fX9_tongue_p83
  rw [if_neg (nI_nle h0 (by omega))]
theorem tg62_F {dl dM dT dA : Nat → Int32} {dw das y1 y2 y3 y4 td : Int32} {F A k : Nat} (h0 : 0 < F) (h6 : F ≤ 6) : fX9_tongue_p62 n mL mW wM wL mA aW mt td (k + 1) dl dw dM dT das dA y1 y2 y3 y4 (nI F) (nI A) = some (-10 - nI A, mL, mW, wM, wL, mA, aW, dl, dw, dM, dT, das, dA, 0, y1, y2, y3, y4, nI F, nI A) := by
  rw [fX9_tongue_p62, if_neg (nI_ne0 h0 (by omega)), tg83_F h0 h6]
/-- what the reading of the text does -/
def TO (n T : Nat) (mL : Nat → Int32) (mW : Int32) (wM wL : Nat → Int32) (mA : Int32) (aW : Nat → Int32) (X : Option (Int32 × Int32 × Int32 × Int32 × Int32 × Int32 × Int32 × (Nat → Int32) × (Nat → Int64) × (Nat → Int32) × (Nat → Int64) × (Nat → Int32) × Int32 × Int32 × Int32)) (M : Option (Int32 × (Nat → Int32) × Int32 × (Nat → Int32) × (Nat → Int32) × Int32 × (Nat → Int32) × (Nat → Int32) × Int32 × (Nat → Int32) × (Nat → Int32) × Int32 × (Nat → Int32) × Int32 × Int32 × Int32 × Int32 × Int32 × Int32 × Int32)) : Prop :=
  (∃ (F A : Nat) (x1 x2 x3 x4 : Int32) (f1 : Nat → Int32) (f2 : Nat → Int64) (f3 : Nat → Int32) (f4 : Nat → Int64) (f5 : Nat → Int32) (x5 x6 x7 : Int32), 0 < F ∧ F ≤ 6 ∧ A ≤ T ∧ X = some (0, nI F, nI A, x1, x2, x3, x4, f1, f2, f3, f4, f5, x5, x6, x7) ∧ ∃ (dl : Nat → Int32) (dw : Int32) (dM dT : Nat → Int32) (das : Int32) (dA : Nat → Int32) (y1 y2 y3 y4 : Int32), M = some (-10 - nI A, mL, mW, wM, wL, mA, aW, dl, dw, dM, dT, das, dA, 0, y1, y2, y3, y4, nI F, nI A)) ∨
  (∃ (W Q : Nat) (ln : Nat → Nat) (lt mm : Nat → Nat → Nat) (am : Nat → Nat) (lm : Nat → Int32) (names : Nat → Int64) (spelled : Nat → Int32) (rows : Nat → Int64) (asks : Nat → Int32) (letters words askCount : Int32) (dl : Nat → Int32) (dw : Int32) (dM dT : Nat → Int32) (das : Int32) (dA : Nat → Int32) (rp x1 x2 x3 x4 y1 y2 y3 y4 mw : Int32), DR W Q ln lt mm am lm names spelled rows asks letters words askCount dl dw dM dT das dA ∧ X = some (1, 0, rp, x1, x2, x3, x4, lm, names, spelled, rows, asks, letters, words, askCount) ∧ M = fX9_tongue_p83 n mL mW wM wL mA aW dl dw dM dT das dA (nI T) y1 y2 y3 y4 0 mw)
theorem P_text (hn : 1000 ≤ n) (h : TX T tx tb mt) (mw : Int32) : ∀ (d k k' p x : Nat) (rp xk xs xn mf ms mv : Int32) {W Q : Nat} {ln : Nat → Nat} {lt mm : Nat → Nat → Nat} {am : Nat → Nat} {lm : Nat → Int32} {names : Nat → Int64} {spelled : Nat → Int32} {rows : Nat → Int64} {asks : Nat → Int32} {letters words askCount : Int32} {dl : Nat → Int32} {dw : Int32} {dM dT : Nat → Int32} {das : Int32} {dA : Nat → Int32}, p + d = T → d < k → d + 1 < k' → x ≤ p → DR W Q ln lt mm am lm names spelled rows asks letters words askCount dl dw dM dT das dA →
    TO n T mL mW wM wL mA aW (fX6_readText_p24 n tb (nI T) k 0 rp xk xs (nI p) xn lm names spelled rows asks letters words askCount (nI x)) (bd6 (fX9_next n mt (nI T) (nI p) mf ms mv 0 mw) (fun v2 v3 v4 v5 v6 v7 => fX9_tongue_p62 n mL mW wM wL mA aW mt (nI T) k' dl dw dM dT das dA v2 v3 v4 v5 v6 v7)) := by
  have h1 := h.1
  intro d
  induction d using Nat.strongRecOn with
  | _ d ih =>
  intro k k' p x rp xk xs xn mf ms mv W Q ln lt mm am lm names spelled rows asks letters words askCount dl dw dM dT das dA hpd hk hk' hx hD
  obtain ⟨k, rfl⟩ : ∃ q, k = q + 1 := ⟨k - 1, by omega⟩
  obtain ⟨k', rfl⟩ : ∃ q, k' = q + 2 := ⟨k' - 2, by omega⟩
  rw [fX6_readText_p24, show (400 : Int32) = nI 400 from rfl, if_neg (nI_nlt (by omega) (by decide))]
  rcases P_tok hn h (p := p) (by omega) xk xs xn mf ms mv mw with ⟨kd, s, e, xn', mv', g, eX, eM⟩ | ⟨s, e, xn', a1, a2, a3, hs, eX, eM⟩
  · rw [eX, bd4_some, eM, bd6_some, fX9_tongue_p62, if_pos rfl]
    by_cases z : kd = 0
    · subst z
      rw [if_pos (show nI 0 = 0 from rfl), if_pos (show nI 0 = 0 from rfl)]
      exact Or.inr ⟨W, Q, ln, lt, mm, am, _, _, _, _, _, _, _, _, _, _, _, _, _, _, _, _, _, _, _, _, _, _, _, _, hD, rfl, rfl⟩
    · have g4 := g.2.2.2.1
      have gp := g.1
      have ge := g.2.1
      have kz : ¬ nI kd = 0 := kd_ne (c := 0) g4 (by decide) z
      rw [if_neg kz, if_neg kz]
      rcases P_line hn h hD g z 0 rp mw with ⟨F, A, x1, x2, x3, x4, f1, f2, f3, f4, f5, x5, x6, x7, q1, q2, q3, lX, f3', v4', f5', f6', v7', f8', v9', v10', v11', v12', lM⟩ | ⟨p', W', Q', ln', lt', mm', am', lm', names', spelled', rows', asks', letters', words', askCount', dl', dw', dM', dT', das', dA', x1, x2, x4, y1, y2, y3, q1, q2, q3, lX, lM⟩
      · rw [lX, bd15_some, if_pos rfl, lM, bd12_some, tg62_F q1 q2]
        exact Or.inl ⟨F, A, _, _, _, _, _, _, _, _, _, _, _, _, q1, q2, q3, rfl, _, _, _, _, _, _, _, _, _, _, rfl⟩
      · rw [lX, bd15_some, if_neg i10, lM, nI_1]
        have asc : ∀ (o : Option (Int32 × Int32 × Int32 × Int32 × Int32 × Int32)), bd12 (bd6 o (fun a1 a2 a3 a4 a5 a6 => some (dl', dw', dM', dT', das', dA', a1, a2, a3, a4, a5, a6))) (fun f3 v4 f5 f6 v7 f8 v9 v10 v11 v12 v13 v14 => fX9_tongue_p62 n mL mW wM wL mA aW mt (nI T) (k' + 1) f3 v4 f5 f6 v7 f8 v9 v10 v11 v12 v13 v14) = bd6 o (fun v2 v3 v4 v5 v6 v7 => fX9_tongue_p62 n mL mW wM wL mA aW mt (nI T) (k' + 1) dl' dw' dM' dT' das' dA' v2 v3 v4 v5 v6 v7) := by
          intro o
          cases o with
          | none => rfl
          | some q => rfl
        rw [asc]
        exact ih (T - p') (by omega) k (k' + 1) p' (x + 1) rp x1 x2 x4 y1 y2 y3 (by omega) (by omega) (by omega) (by omega) q3
  · rw [eX, bd4_some, if_neg (by decide), eM, bd6_some]
    unfold fX6_readLine fX6_refuse
    rw [if_neg (by decide), if_pos rfl, bd3_some, rb_0, bd15_some, if_pos rfl]
    exact Or.inl ⟨1, s, _, _, _, _, _, _, _, _, _, _, _, _, by decide, by decide, by omega, rfl, dl, dw, dM, dT, das, dA, a1, nI s, a2, a3, tg62_F (F := 1) (by decide) (by decide)⟩
/-- the reference takes the draft over -/
theorem M_take (hn : 1000 ≤ n) (dl dM dT dA : Nat → Int32) (dw das td y1 y2 y3 y4 mw : Int32) : ∃ mL' wM' wL' aW' : Nat → Int32, (∀ j, j < 26 → mL' j = dl j) ∧ (∀ j, j < 16 → wM' j = dM j) ∧ (∀ j, j < 128 → wL' j = dT j) ∧ (∀ j, j < 6 → aW' j = dA j) ∧ fX9_tongue_p83 n mL mW wM wL mA aW dl dw dM dT das dA td y1 y2 y3 y4 0 mw = some (dw, mL', dw, wM', wL', das, aW', dl, dw, dM, dT, das, dA, 0, y1, y2, y3, y4, 0, mw) := by
  have l4 : ∀ (mL wM wL : Nat → Int32) (d k i : Nat) (f : Nat → Int32), i + d = 6 → d < k → (∀ j, j < i → f j = dA j) → ∃ g : Nat → Int32, (∀ j, j < 6 → g j = dA j) ∧ fX9_tongue_p200 n mL dw wM wL das dl dw dM dT das dA 0 y1 y2 y3 y4 0 mw k f (nI i) = some (dw, mL, dw, wM, wL, das, g, dl, dw, dM, dT, das, dA, 0, y1, y2, y3, y4, 0, mw) := by
    intro mL wM wL d
    induction d with
    | zero =>
      intro k i f hi hk hf
      obtain ⟨k, rfl⟩ : ∃ q, k = q + 1 := ⟨k - 1, by omega⟩
      rw [fX9_tongue_p200, show (6 : Int32) = nI 6 from rfl, if_pos (nI_le (by omega) (by omega))]
      exact ⟨f, fun j hj => hf j (by omega), rfl⟩
    | succ d ih =>
      intro k i f hi hk hf
      obtain ⟨k, rfl⟩ : ∃ q, k = q + 1 := ⟨k - 1, by omega⟩
      rw [fX9_tongue_p200, show (6 : Int32) = nI 6 from rfl, if_neg (nI_ge (by omega) (by omega)), ar_nI (by omega) (by decide), aw_nI (by omega) (by decide), nI_1]
      refine ih k (i + 1) _ (by omega) (by omega) (fun j hj => ?_)
      by_cases z : j = i
      · subst z
        exact pk_us
      · rw [pk_un z]
        exact hf j (by omega)
  have l3 : ∀ (mL wM : Nat → Int32) (d k i : Nat) (f : Nat → Int32), i + d = 128 → d < k → (∀ j, j < i → f j = dT j) → ∃ g : Nat → Int32, (∀ j, j < 128 → g j = dT j) ∧ fX9_tongue_p173 n mL dw wM das aW dl dw dM dT das dA 0 y1 y2 y3 y4 0 mw k f (nI i) = fX9_tongue_p200 n mL dw wM g das dl dw dM dT das dA 0 y1 y2 y3 y4 0 mw n aW 0 := by
    intro mL wM d
    induction d with
    | zero =>
      intro k i f hi hk hf
      obtain ⟨k, rfl⟩ : ∃ q, k = q + 1 := ⟨k - 1, by omega⟩
      rw [fX9_tongue_p173, show (128 : Int32) = nI 128 from rfl, if_pos (nI_le (by omega) (by omega))]
      exact ⟨f, fun j hj => hf j (by omega), rfl⟩
    | succ d ih =>
      intro k i f hi hk hf
      obtain ⟨k, rfl⟩ : ∃ q, k = q + 1 := ⟨k - 1, by omega⟩
      rw [fX9_tongue_p173, show (128 : Int32) = nI 128 from rfl, if_neg (nI_ge (by omega) (by omega)), ar_nI (by omega) (by decide), aw_nI (by omega) (by decide), nI_1]
      refine ih k (i + 1) _ (by omega) (by omega) (fun j hj => ?_)
      by_cases z : j = i
      · subst z
        exact pk_us
      · rw [pk_un z]
        exact hf j (by omega)
  have l2 : ∀ (mL : Nat → Int32) (d k i : Nat) (f : Nat → Int32), i + d = 16 → d < k → (∀ j, j < i → f j = dM j) → ∃ g : Nat → Int32, (∀ j, j < 16 → g j = dM j) ∧ fX9_tongue_p147 n mL dw wL das aW dl dw dM dT das dA 0 y1 y2 y3 y4 0 mw k f (nI i) = fX9_tongue_p173 n mL dw g das aW dl dw dM dT das dA 0 y1 y2 y3 y4 0 mw n wL 0 := by
    intro mL d
    induction d with
    | zero =>
      intro k i f hi hk hf
      obtain ⟨k, rfl⟩ : ∃ q, k = q + 1 := ⟨k - 1, by omega⟩
      rw [fX9_tongue_p147, show (16 : Int32) = nI 16 from rfl, if_pos (nI_le (by omega) (by omega))]
      exact ⟨f, fun j hj => hf j (by omega), rfl⟩
    | succ d ih =>
      intro k i f hi hk hf
      obtain ⟨k, rfl⟩ : ∃ q, k = q + 1 := ⟨k - 1, by omega⟩
      rw [fX9_tongue_p147, show (16 : Int32) = nI 16 from rfl, if_neg (nI_ge (by omega) (by omega)), ar_nI (by omega) (by decide), aw_nI (by omega) (by decide), nI_1]
      refine ih k (i + 1) _ (by omega) (by omega) (fun j hj => ?_)
      by_cases z : j = i
      · subst z
        exact pk_us
      · rw [pk_un z]
        exact hf j (by omega)
  have l1 : ∀ (d k i : Nat) (f : Nat → Int32), i + d = 26 → d < k → (∀ j, j < i → f j = dl j) → ∃ g : Nat → Int32, (∀ j, j < 26 → g j = dl j) ∧ fX9_tongue_p121 n dw wM wL das aW dl dw dM dT das dA 0 y1 y2 y3 y4 0 mw k f (nI i) = fX9_tongue_p147 n g dw wL das aW dl dw dM dT das dA 0 y1 y2 y3 y4 0 mw n wM 0 := by
    intro d
    induction d with
    | zero =>
      intro k i f hi hk hf
      obtain ⟨k, rfl⟩ : ∃ q, k = q + 1 := ⟨k - 1, by omega⟩
      rw [fX9_tongue_p121, show (26 : Int32) = nI 26 from rfl, if_pos (nI_le (by omega) (by omega))]
      exact ⟨f, fun j hj => hf j (by omega), rfl⟩
    | succ d ih =>
      intro k i f hi hk hf
      obtain ⟨k, rfl⟩ : ∃ q, k = q + 1 := ⟨k - 1, by omega⟩
      rw [fX9_tongue_p121, show (26 : Int32) = nI 26 from rfl, if_neg (nI_ge (by omega) (by omega)), ar_nI (by omega) (by decide), aw_nI (by omega) (by decide), nI_1]
      refine ih k (i + 1) _ (by omega) (by omega) (fun j hj => ?_)
      by_cases z : j = i
      · subst z
        exact pk_us
      · rw [pk_un z]
        exact hf j (by omega)
  obtain ⟨g1, p1, q1⟩ := l1 26 n 0 mL (by omega) (by omega) (fun j hj => by omega)
  obtain ⟨g2, p2, q2⟩ := l2 g1 16 n 0 wM (by omega) (by omega) (fun j hj => by omega)
  obtain ⟨g3, p3, q3⟩ := l3 g1 g2 128 n 0 wL (by omega) (by omega) (fun j hj => by omega)
  obtain ⟨g4, p4, q4⟩ := l4 g1 g2 g3 6 n 0 aW (by omega) (by omega) (fun j hj => by omega)
  refine ⟨g1, g2, g3, g4, p1, p2, p3, p4, ?_⟩
  unfold fX9_tongue_p83
  rw [if_pos (by decide), show fX9_tongue_p121 n dw wM wL das aW dl dw dM dT das dA 0 y1 y2 y3 y4 0 mw n mL 0 = _ from q1, show fX9_tongue_p147 n g1 dw wL das aW dl dw dM dT das dA 0 y1 y2 y3 y4 0 mw n wM 0 = _ from q2, show fX9_tongue_p173 n g1 dw g2 das aW dl dw dM dT das dA 0 y1 y2 y3 y4 0 mw n wL 0 = _ from q3]
  exact q4
theorem M_clear (hn : 1000 ≤ n) {dM dT dA : Nat → Int32} {dw das mf ms mv mw td pos mfl : Int32} (dl : Nat → Int32) : ∃ g : Nat → Int32, (∀ j, j < 26 → g j = -1) ∧ fX9_tongue_p39 n mL mW wM wL mA aW dw dM dT das dA mt td pos mf ms mv mfl mw n dl 0 = bd6 (fX9_next n mt td pos mf ms mv mfl mw) (fun v2 v3 v4 v5 v6 v7 => fX9_tongue_p62 n mL mW wM wL mA aW mt td n g dw dM dT das dA v2 v3 v4 v5 v6 v7) := by
  have l1 : ∀ (d k i : Nat) (f : Nat → Int32), i + d = 26 → d < k → (∀ j, j < i → f j = -1) → ∃ g : Nat → Int32, (∀ j, j < 26 → g j = -1) ∧ fX9_tongue_p39 n mL mW wM wL mA aW dw dM dT das dA mt td pos mf ms mv mfl mw k f (nI i) = bd6 (fX9_next n mt td pos mf ms mv mfl mw) (fun v2 v3 v4 v5 v6 v7 => fX9_tongue_p62 n mL mW wM wL mA aW mt td n g dw dM dT das dA v2 v3 v4 v5 v6 v7) := by
    intro d
    induction d with
    | zero =>
      intro k i f hi hk hf
      obtain ⟨k, rfl⟩ : ∃ q, k = q + 1 := ⟨k - 1, by omega⟩
      rw [fX9_tongue_p39, show (26 : Int32) = nI 26 from rfl, if_pos (nI_le (by omega) (by omega))]
      exact ⟨f, fun j hj => hf j (by omega), rfl⟩
    | succ d ih =>
      intro k i f hi hk hf
      obtain ⟨k, rfl⟩ : ∃ q, k = q + 1 := ⟨k - 1, by omega⟩
      rw [fX9_tongue_p39, show (26 : Int32) = nI 26 from rfl, if_neg (nI_ge (by omega) (by omega)), aw_nI (by omega) (by decide), nI_1]
      refine ih k (i + 1) _ (by omega) (by omega) (fun j hj => ?_)
      by_cases z : j = i
      · subst z
        exact pk_us
      · rw [pk_un z]
        exact hf j (by omega)
  exact l1 26 n 0 dl (by omega) (by omega) (fun j hj => by omega)
/-- tongue() -/
theorem P_tongue (hn : 1000 ≤ n) {ts mtd : Int32} (h : RT T tb ts mt mtd) {C Ch : Nat} (hC : C < 10000) (hCh : Ch < 10000) {W Q nl : Nat} {ln : Nat → Nat} {mm : Nat → Nat → Nat} {am : Nat → Nat} {to_spelled : Nat → Int32} {to_rows : Nat → Int64} {to_alike to_near to_asks : Nat → Int32} {to_letters to_words to_askCount : Int32} (hX : okX W Q nl ln (mLf ln mm) am to_spelled to_rows to_alike to_near to_asks to_letters to_words to_askCount) (hM : okMT W Q nl ln mm am mL mW wM wL mA aW)
    (lf0 rd_fault rd_faultPlace rd_kind rd_start rd_at rd_number : Int32) (dr_letterMarks : Nat → Int32) (dr_names : Nat → Int64) (dr_spelled : Nat → Int32) (dr_rows : Nat → Int64) (dr_alike dr_near dr_asks : Nat → Int32) (dr_letters dr_words dr_askCount : Int32) (to_letterMarks : Nat → Int32) (to_names : Nat → Int64) (dl : Nat → Int32) (dw : Int32) (dM dT : Nat → Int32) (das : Int32) (dA : Nat → Int32) (mp mf ms mv mw : Int32) :
    ∃ (T' : Nat) (r lf' ts' u1 u2 u3 u4 u5 u6 : Int32) (dr1 : Nat → Int32) (dr2 : Nat → Int64) (dr3 : Nat → Int32) (dr4 : Nat → Int64) (dr5 dr6 dr7 : Nat → Int32) (dr8 dr9 dr10 : Int32) (to1 : Nat → Int32) (to2 : Nat → Int64) (to3 : Nat → Int32) (to4 : Nat → Int64) (to5 to6 to7 : Nat → Int32) (to8 to9 to10 : Int32) (mL' : Nat → Int32) (mW' : Int32) (wM' wL' : Nat → Int32) (mA' : Int32) (aW' dl' : Nat → Int32) (dw' : Int32) (dM' dT' : Nat → Int32) (das' : Int32) (dA' : Nat → Int32) (mtd' y1 y2 y3 y4 mw' : Int32) (W' Q' nl' : Nat) (ln' : Nat → Nat) (mm' : Nat → Nat → Nat) (am' : Nat → Nat),
      fX8_tongue n lf0 tb ts rd_fault rd_faultPlace rd_kind rd_start rd_at rd_number dr_letterMarks dr_names dr_spelled dr_rows dr_alike dr_near dr_asks dr_letters dr_words dr_askCount (nI C) (nI Ch) to_letterMarks to_names to_spelled to_rows to_alike to_near to_asks to_letters to_words to_askCount = some (r, lf', ts', u1, u2, u3, u4, u5, u6, dr1, dr2, dr3, dr4, dr5, dr6, dr7, dr8, dr9, dr10, to1, to2, to3, to4, to5, to6, to7, to8, to9, to10) ∧
      fX9_tongue n mL mW wM wL mA aW dl dw dM dT das dA mt mtd mp mf ms mv lf0 mw (nI C) (nI Ch) = some (r, mL', mW', wM', wL', mA', aW', dl', dw', dM', dT', das', dA', mtd', y1, y2, y3, y4, lf', mw') ∧
      RT T' tb ts' mt mtd' ∧ okX W' Q' nl' ln' (mLf ln' mm') am' to3 to4 to5 to6 to7 to8 to9 to10 ∧ okMT W' Q' nl' ln' mm' am' mL' mW' wM' wL' mA' aW' ∧ ((0 < C ∨ 0 < Ch) → W' = W ∧ Q' = Q ∧ nl' = nl ∧ ln' = ln ∧ mm' = mm ∧ am' = am) := by
  have rt0 : RT 0 tb 0 mt 0 := ⟨by omega, rfl, rfl, h.2.2.2⟩
  unfold fX8_tongue fX9_tongue
  by_cases z : 0 < C
  · rw [show (0 : Int32) = nI 0 from rfl, if_pos (nI_lt z (by omega)), if_pos (nI_lt z (by omega))]
    exact ⟨T, _, _, _, _, _, _, _, _, _, _, _, _, _, _, _, _, _, _, _, _, _, _, _, _, _, _, _, _, _, _, _, _, _, _, _, _, _, _, _, _, _, _, _, _, _, _, _, W, Q, nl, ln, mm, am, rfl, rfl, h, hX, hM, fun _ => ⟨rfl, rfl, rfl, rfl, rfl, rfl⟩⟩
  · have c0 : C = 0 := by omega
    subst c0
    rw [if_neg (show ¬ (0 : Int32) < nI 0 from by decide), if_neg (show ¬ (0 : Int32) < nI 0 from by decide)]
    by_cases y : 0 < Ch
    · rw [if_neg (nI_nle y (by omega)), if_neg (nI_nle y (by omega))]
      exact ⟨T, _, _, _, _, _, _, _, _, _, _, _, _, _, _, _, _, _, _, _, _, _, _, _, _, _, _, _, _, _, _, _, _, _, _, _, _, _, _, _, _, _, _, _, _, _, _, _, W, Q, nl, ln, mm, am, rfl, rfl, h, hX, hM, fun _ => ⟨rfl, rfl, rfl, rfl, rfl, rfl⟩⟩
    · have ch0 : Ch = 0 := by omega
      subst ch0
      rw [if_pos (show nI 0 ≤ (0 : Int32) from by decide), if_pos (show nI 0 ≤ (0 : Int32) from by decide)]
      obtain ⟨tx, htx⟩ := TX_ex h
      obtain ⟨hT, hts, hmtd, -⟩ := id h
      subst hts hmtd
      obtain ⟨g, g1, g2⟩ := M_clear (mt := mt) (mL := mL) (wM := wM) (wL := wL) (aW := aW) (mW := mW) (mA := mA) (dM := dM) (dT := dT) (dA := dA) (dw := 0) (das := 0) (mf := mf) (ms := ms) (mv := mv) (mw := mw) (td := nI T) (pos := 0) (mfl := 0) hn dl
      obtain ⟨lm, l1, l2, -⟩ := J_fill_all (n := n) (N := 26) (-1) (by decide) (by omega) dr_letterMarks
      unfold fX6_readText fX7_forget
      rw [g2, l1, bd1_some, bd4_some]
      have ct0 : fb_ct (fun k => decide (g k ≠ -1)) 26 = 0 := fb_ct_zero.mpr (fun k hk => decide_eq_false (fun w => w (g1 k hk)))
      have D0 : DR 0 0 (fun _ => 0) (fun _ _ => 0) (fun _ _ => 0) (fun _ => 0) lm dr_names dr_spelled dr_rows dr_asks 0 0 0 g 0 dM dT 0 dA := by
        refine ⟨by decide, rfl, rfl, rfl, rfl, ?_, fun k hk => Or.inl ⟨l2 k hk, g1 k hk⟩, ⟨by decide, fun w hw => by omega⟩, fun w hw => by omega, fun a ha => by omega⟩
        rw [ct0]
        rfl
      rcases P_text (mL := mL) (wM := wM) (wL := wL) (aW := aW) (mW := mW) (mA := mA) hn htx mw T n n 0 0 0 rd_kind rd_start rd_number mf ms mv (by omega) (by omega) (by omega) (by omega) D0 with ⟨F, A, x1, x2, x3, x4, f1, f2, f3, f4, f5, x5, x6, x7, q1, q2, q3, eX, dl', dw', dM', dT', das', dA', y1, y2, y3, y4, eM⟩ | ⟨W', Q', ln', lt', mm', am', lm', names', spelled', rows', asks', letters', words', askCount', dl', dw', dM', dT', das', dA', rp, x1, x2, x3, x4, y1, y2, y3, y4, mw', hD, eX, eM⟩
      · rw [show fX6_readText_p24 n tb (nI T) n 0 0 rd_kind rd_start 0 rd_number lm dr_names dr_spelled dr_rows dr_asks 0 0 0 0 = _ from eX, bd15_some, if_pos rfl]
        exact ⟨0, _, _, _, _, _, _, _, _, _, _, _, _, _, _, _, _, _, _, _, _, _, _, _, _, _, _, _, _, _, _, _, _, _, _, _, _, _, _, _, _, _, _, _, _, _, _, _, W, Q, nl, ln, mm, am, rfl, eM, rt0, hX, hM, fun w => by omega⟩
      · obtain ⟨d1, d2, d3, d4, d5, d6, d7, d8, d9, d10⟩ := hD
        have okl : ∀ w, w < W' → okL (mLf ln' mm' w) := fun w hw => spc_okL (d8.2 w hw).2.1 (fun i hi => ((d9 w hw).2.2.2 i hi).2)
        obtain ⟨rows2, al2, ne2, s1, s2⟩ := X_settle (n := n) (mL := mLf ln' mm') (alike := dr_alike) (near := dr_near) hn d8.1 okl (rows := rows') (fun w hw => (d9 w hw).2.2.1)
        obtain ⟨mL2, wM2, wL2, aW2, m1, m2, m3, m4, m5⟩ := M_take (mL := mL) (wM := wM) (wL := wL) (aW := aW) (mW := mW) (mA := mA) hn dl' dM' dT' dA' dw' das' (nI T) y1 y2 y3 y4 mw'
        rw [show fX6_readText_p24 n tb (nI T) n 0 0 rd_kind rd_start 0 rd_number lm dr_names dr_spelled dr_rows dr_asks 0 0 0 0 = _ from eX, bd15_some, if_neg i10, d2, s1, bd3_some]
        rw [m5, d3, d5] at eM
        refine ⟨0, _, _, _, _, _, _, _, _, _, _, _, _, _, _, _, _, _, _, _, _, _, _, _, _, _, _, _, _, _, _, _, _, _, _, _, _, _, _, _, _, _, _, _, _, _, _, _, W', Q', fb_ct (fun k => decide (dl' k ≠ -1)) 26, ln', mm', am', rfl, eM, rt0, ⟨d8.1, d1, fb_ct_le _ _, d6, rfl, d4, fun w hw => ⟨okl w hw, (d8.2 w hw).2.1, (d9 w hw).2.1, (s2 w hw).1, (s2 w hw).2⟩, fun a ha => ⟨(d10 a ha).1, (d10 a ha).2.1⟩⟩, ⟨⟨d8.1, fun w hw => ⟨(d8.2 w hw).2.1, ?_, fun i hi => ⟨lt' w i, ?_, ?_, ?_, ?_⟩⟩⟩, d1, rfl, rfl, fun a ha => ⟨(d10 a ha).1, ?_⟩, ?_⟩, fun w => by omega⟩
        · rw [m2 w (by have := d8.1; omega)]
          exact (d8.2 w hw).2.2.1
        · exact ((d8.2 w hw).2.2.2 i hi).1
        · have := d8.1
          have := (d8.2 w hw).2.1
          rw [m3 _ (by omega)]
          exact ((d8.2 w hw).2.2.2 i hi).2
        · rw [m1 _ ((d8.2 w hw).2.2.2 i hi).1]
          exact ((d9 w hw).2.2.2 i hi).1
        · exact ((d9 w hw).2.2.2 i hi).2
        · rw [m4 a (by omega)]
          exact (d10 a ha).2.2
        · exact fb_ct_cong (fun k hk => by rw [m1 k hk])
end TM
end TT

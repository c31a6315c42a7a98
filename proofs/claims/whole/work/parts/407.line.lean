/-! the text: a whole line -/
section LN
variable {n T : Nat} {tx : Nat → Nat} {tb mt : Nat → Int32}
/-- the draft on both sides -/
def DR (W Q : Nat) (ln : Nat → Nat) (lt mm : Nat → Nat → Nat) (am : Nat → Nat) (lm : Nat → Int32) (names : Nat → Int64) (spelled : Nat → Int32) (rows : Nat → Int64) (asks : Nat → Int32) (letters words askCount : Int32) (dl : Nat → Int32) (dw : Int32) (dM dT : Nat → Int32) (das : Int32) (dA : Nat → Int32) : Prop :=
  Q ≤ 6 ∧ words = nI W ∧ dw = nI W ∧ askCount = nI Q ∧ das = nI Q ∧ letters = nI (fb_ct (fun k => decide (dl k ≠ -1)) 26) ∧ DL lm dl ∧ DWm W ln lt dM dT ∧ (∀ w, w < W → names w = lN (enc (lt w) (ln w)) ∧ spelled w = nI (ln w) ∧ rows w = lN (pkl (spc (mm w) (ln w))) ∧ ∀ i, i < ln w → dl (lt w i) = nI (mm w i) ∧ (mm w i ≤ 20 ∨ mm w i = 30)) ∧ ∀ a, a < Q → am a < 2 ^ W ∧ asks a = nI (am a) ∧ dA a = nI (am a)
/-- a row with one place set -/
def nup {α : Type} (f : Nat → α) (k : Nat) (x : α) : Nat → α := fun j => if j = k then x else f j
theorem nup_s {α : Type} {f : Nat → α} {k : Nat} {x : α} : nup f k x k = x := if_pos rfl
theorem nup_n {α : Type} {f : Nat → α} {k j : Nat} {x : α} (h : ¬ j = k) : nup f k x j = f j := if_neg h
section DP
variable {W Q : Nat} {ln : Nat → Nat} {lt mm : Nat → Nat → Nat} {am : Nat → Nat} {lm : Nat → Int32} {names : Nat → Int64} {spelled : Nat → Int32} {rows : Nat → Int64} {asks : Nat → Int32} {letters words askCount : Int32} {dl : Nat → Int32} {dw : Int32} {dM dT : Nat → Int32} {das : Int32} {dA : Nat → Int32}
theorem DR_letter (h : DR W Q ln lt mm am lm names spelled rows asks letters words askCount dl dw dM dT das dA) {q : Nat} (hq : q < 26) (l1 : lm q = -1) (l2 : dl q = -1) {x y : Int32} (hxy : (x = -2 ∧ y = nI 30) ∨ (∃ v, v ≤ 20 ∧ x = nI v ∧ y = nI v)) : DR W Q ln lt mm am (upd lm q x) names spelled rows asks (letters + 1) words askCount (upd dl q y) dw dM dT das dA := by
  obtain ⟨h1, h2, h3, h4, h5, h6, h7, h8, h9, h10⟩ := h
  have y1 : ¬ y = -1 := by
    rcases hxy with ⟨_, b⟩ | ⟨v, c, _, b⟩
    · rw [b]; exact m1_ne (by decide)
    · rw [b]; exact m1_ne (by omega)
  refine ⟨h1, h2, h3, h4, h5, ?_, ?_, h8, fun w hw => ?_, h10⟩
  · rw [h6, nI_1]
    have u := fb_ct_upd (fun k => decide (dl k ≠ -1)) true (i := q) (n := 26) hq
    rw [show (decide (dl q ≠ -1)) = false from decide_eq_false (fun z => z l2)] at u
    rw [fb_ct_cong (p := fun k => decide (upd dl q y k ≠ -1)) (q := fun k => if k = q then true else decide (dl k ≠ -1)) (fun k hk => ?_)]
    · exact congrArg nI (Eq.symm u)
    · show decide (upd dl q y k ≠ -1) = if k = q then true else decide (dl k ≠ -1)
      by_cases z : k = q
      · subst z
        rw [if_pos rfl, pk_us]
        exact decide_eq_true y1
      · rw [if_neg z, pk_un z]
  · intro k hk
    by_cases z : k = q
    · subst z
      rw [pk_us, pk_us]
      exact Or.inr hxy
    · rw [pk_un z, pk_un z]
      exact h7 k hk
  · obtain ⟨a, b, c, d⟩ := h9 w hw
    refine ⟨a, b, c, fun i hi => ?_⟩
    obtain ⟨d1, d2⟩ := d i hi
    refine ⟨?_, d2⟩
    rw [pk_un (fun z => ?_)]
    · exact d1
    · rw [z, l2] at d1
      exact m1_ne (by omega) d1.symm
theorem DR_word (h : DR W Q ln lt mm am lm names spelled rows asks letters words askCount dl dw dM dT das dA) (hW : W < 16) {L : Nat} {f g : Nat → Nat} {dT' : Nat → Int32} (L1 : 1 ≤ L) (L8 : L ≤ 8) (hf : ∀ i, i < L → f i < 26 ∧ dT' (8 * W + i) = nI (f i) ∧ dl (f i) = nI (g i) ∧ (g i ≤ 20 ∨ g i = 30)) (hT : ∀ j, j < 8 * W → dT' j = dT j) : DR (W + 1) Q (nup ln W L) (nup lt W f) (nup mm W g) am lm (vp_updL names W (lN (enc f L))) (upd spelled W (nI L)) (vp_updL rows W (lN (pkl (spc g L)))) asks letters (nI (W + 1)) askCount dl (nI (W + 1)) (upd dM W (nI L)) dT' das dA := by
  obtain ⟨h1, h2, h3, h4, h5, h6, h7, h8, h9, h10⟩ := h
  refine ⟨h1, rfl, rfl, h4, h5, h6, h7, ⟨by omega, fun w hw => ?_⟩, fun w hw => ?_, fun a ha => ?_⟩
  · by_cases z : w = W
    · subst z
      rw [nup_s, nup_s, pk_us]
      exact ⟨L1, L8, rfl, fun i hi => ⟨(hf i hi).1, (hf i hi).2.1⟩⟩
    · rw [nup_n z, nup_n z, pk_un z]
      obtain ⟨a, b, c, d⟩ := h8.2 w (by omega)
      refine ⟨a, b, c, fun i hi => ⟨(d i hi).1, ?_⟩⟩
      rw [hT _ (by omega)]
      exact (d i hi).2
  · by_cases z : w = W
    · subst z
      rw [nup_s, nup_s, nup_s, pk_us, pk_uLs, pk_uLs]
      exact ⟨rfl, rfl, rfl, fun i hi => ⟨(hf i hi).2.2.1, (hf i hi).2.2.2⟩⟩
    · rw [nup_n z, nup_n z, nup_n z, pk_un z, pk_uLn z, pk_uLn z]
      exact h9 w (by omega)
  · obtain ⟨a, b, c⟩ := h10 a ha
    exact ⟨Nat.lt_trans a (Nat.pow_lt_pow_right (by decide) (by omega)), b, c⟩
theorem DR_ask (h : DR W Q ln lt mm am lm names spelled rows asks letters words askCount dl dw dM dT das dA) (hQ : Q < 6) {a' : Nat} (ha : a' < 2 ^ W) : DR W (Q + 1) ln lt mm (nup am Q a') lm names spelled rows (upd asks Q (nI a')) letters words (nI (Q + 1)) dl dw dM dT (nI (Q + 1)) (upd dA Q (nI a')) := by
  obtain ⟨h1, h2, h3, h4, h5, h6, h7, h8, h9, h10⟩ := h
  refine ⟨by omega, h2, h3, rfl, rfl, h6, h7, h8, h9, fun a hq => ?_⟩
  by_cases z : a = Q
  · subst z
    rw [nup_s, pk_us, pk_us]
    exact ⟨ha, rfl, rfl⟩
  · rw [nup_n z, pk_un z, pk_un z]
    exact h10 a (by omega)
end DP
theorem ln30_c {dl dM dT dA : Nat → Int32} {dw das td pos fr so va wr : Int32} {c : Nat} (hc : c ≤ 3) : fX9_readLine_p30 n dl dw dM dT das dA mt td pos fr so va 0 wr (nI c) 1 = fX9_readLine_p79 n dl dw dM dT das dA mt td pos fr so va 0 wr (nI c) 1 := by
  unfold fX9_readLine_p30 fX9_readLine_p54
  rw [wants1, bd2_some, if_neg (by rw [show (4 : Int32) = nI 4 from rfl, nI_eq (by omega) (by decide)]; omega), wants1, bd2_some, if_neg (by rw [show (5 : Int32) = nI 5 from rfl, nI_eq (by omega) (by decide)]; omega)]
theorem ln30_4 {dl dM dT dA : Nat → Int32} {W : Nat} {das td pos fr so va wr : Int32} (hW : W ≤ 16) : fX9_readLine_p30 n dl (nI W) dM dT das dA mt td pos fr so va 0 wr 4 1 = if W < 16 then fX9_readLine_p79 n dl (nI W) dM dT das dA mt td pos fr so va 0 wr 4 1 else some (dl, nI W, dM, dT, das, dA, pos, fr, so, va, 6, fr) := by
  unfold fX9_readLine_p30
  rw [wants1, bd2_some, if_pos rfl, show (16 : Int32) = nI 16 from rfl]
  by_cases z : W < 16
  · rw [if_neg (nI_ge z (by decide)), if_pos z]
    unfold fX9_readLine_p54
    rw [wants1, bd2_some, if_neg (by decide)]
  · rw [if_pos (nI_le (by omega) (by omega)), if_neg z, ln54_0]
theorem ln30_5 {dl dM dT dA : Nat → Int32} {Q : Nat} {dw td pos fr so va wr : Int32} (hQ : Q ≤ 6) : fX9_readLine_p30 n dl dw dM dT (nI Q) dA mt td pos fr so va 0 wr 5 1 = if Q < 6 then fX9_readLine_p79 n dl dw dM dT (nI Q) dA mt td pos fr so va 0 wr 5 1 else some (dl, dw, dM, dT, nI Q, dA, pos, fr, so, va, 6, fr) := by
  unfold fX9_readLine_p30 fX9_readLine_p54
  rw [wants1, bd2_some, if_neg (by decide), wants1, bd2_some, if_pos rfl, show (6 : Int32) = nI 6 from rfl]
  by_cases z : Q < 6
  · rw [if_neg (nI_ge z (by decide)), if_pos z]
  · rw [if_pos (nI_le (by omega) (by omega)), if_neg z, ln79_0]
    rfl
/-- what a line does -/
def LO (n T : Nat) (mt : Nat → Int32) (e : Nat) (rf rp mw : Int32) (X : Option (Int32 × Int32 × Int32 × Int32 × Int32 × Int32 × Int32 × (Nat → Int32) × (Nat → Int64) × (Nat → Int32) × (Nat → Int64) × (Nat → Int32) × Int32 × Int32 × Int32)) (M : Option ((Nat → Int32) × Int32 × (Nat → Int32) × (Nat → Int32) × Int32 × (Nat → Int32) × Int32 × Int32 × Int32 × Int32 × Int32 × Int32)) : Prop :=
  (∃ (F A : Nat) (x1 x2 x3 x4 : Int32) (f1 : Nat → Int32) (f2 : Nat → Int64) (f3 : Nat → Int32) (f4 : Nat → Int64) (f5 : Nat → Int32) (x5 x6 x7 : Int32), 0 < F ∧ F ≤ 6 ∧ A ≤ T ∧ X = some (0, nI F, nI A, x1, x2, x3, x4, f1, f2, f3, f4, f5, x5, x6, x7) ∧ FM F A M) ∨
  (∃ (p' W Q : Nat) (ln : Nat → Nat) (lt mm : Nat → Nat → Nat) (am : Nat → Nat) (lm : Nat → Int32) (names : Nat → Int64) (spelled : Nat → Int32) (rows : Nat → Int64) (asks : Nat → Int32) (letters words askCount : Int32) (dl : Nat → Int32) (dw : Int32) (dM dT : Nat → Int32) (das : Int32) (dA : Nat → Int32) (x1 x2 x4 y1 y2 y3 : Int32), e < p' ∧ p' ≤ T ∧ DR W Q ln lt mm am lm names spelled rows asks letters words askCount dl dw dM dT das dA ∧ X = some (1, rf, rp, x1, x2, nI p', x4, lm, names, spelled, rows, asks, letters, words, askCount) ∧ M = bd6 (fX9_next n mt (nI T) (nI p') y1 y2 y3 0 mw) (fun a1 a2 a3 a4 a5 a6 => some (dl, dw, dM, dT, das, dA, a1, a2, a3, a4, a5, a6)))
theorem P_line (hn : 1000 ≤ n) (h : TX T tx tb mt) {W Q : Nat} {ln : Nat → Nat} {lt mm : Nat → Nat → Nat} {am : Nat → Nat} {lm : Nat → Int32} {names : Nat → Int64} {spelled : Nat → Int32} {rows : Nat → Int64} {asks : Nat → Int32} {letters words askCount : Int32} {dl : Nat → Int32} {dw : Int32} {dM dT : Nat → Int32} {das : Int32} {dA : Nat → Int32} (hD : DR W Q ln lt mm am lm names spelled rows asks letters words askCount dl dw dM dT das dA) {p kd s e : Nat} {xn mv : Int32} (hk : TKg T tx p kd s e xn mv) (k0 : ¬ kd = 0) (rf rp mw : Int32) :
    LO n T mt e rf rp mw (fX6_readLine n tb (nI T) rf rp (nI kd) (nI s) (nI e) xn lm names spelled rows asks letters words askCount) (fX9_readLine n dl dw dM dT das dA mt (nI T) (nI e) (nI s) (nI kd) mv 0 mw) := by
  have h1 := h.1
  obtain ⟨d1, d2, d3, d4, d5, d6, d7, d8, d9, d10⟩ := id hD
  obtain ⟨g1, g2, g3, g4, g5, g6, g7⟩ := hk
  unfold fX6_readLine fX9_readLine
  by_cases z : kd = 1
  · subst z
    obtain ⟨L, rfl⟩ : ∃ L, e = s + L := ⟨e - s, by omega⟩
    have hl := g6 rfl
    obtain ⟨c, c1, c2, c3, c4⟩ := P_key (n := n) h hl g3
    have sp0 : ∀ j, j < 6 → ¬ isK tx s L j → fX6_spells n tb (nI s) (nI (s + L)) (lenS j) (chS j) = some 0 := fun j hj q => (X_spells hn h hl g3 hj).2 q
    have sp1 : ∀ j, j < 6 → isK tx s L j → fX6_spells n tb (nI s) (nI (s + L)) (lenS j) (chS j) = some 1 := fun j hj q => (X_spells hn h hl g3 hj).1 q
    rw [if_pos (show nI 1 = 1 from rfl), if_pos (show nI 1 = 1 from rfl), show fX9_lineNow n mt (nI T) (nI (s + L)) (nI s) (nI 1) = _ from c4, bd1_some]
    by_cases c0 : c = 0
    · subst c0
      rw [sp1 0 (by decide) (c3 (by decide)), bd1_some, if_neg i10, if_neg (by decide), if_neg (by decide), ln30_c (by decide)]
      rcases P_numL (dw := dw) (das := das) (dM := dM) (dT := dT) (dA := dA) hn h d7 (p := s + L) (c := 0) (base := 0) (lim := 16) g3 (Or.inl ⟨rfl, rfl, rfl⟩) rf rp (nI 1) (nI s) xn (nI s) (nI 1) mv mw letters with ⟨F, A, x1, x2, x3, x4, f, x5, f1, f2, f3, eX, eM⟩ | ⟨p', q, v, x1, x2, x4, y1, y2, y3, r1, r2, r3, r4, r5, r6, eX, eM⟩
      · rw [show fX6_readNumberedLetter n tb (nI T) rf rp (nI 1) (nI s) (nI (s + L)) xn lm letters 0 16 = _ from eX, bd9_some, rb_0]
        exact Or.inl ⟨F, A, _, _, _, _, _, _, _, _, _, _, _, _, f1, f2, f3, rfl, eM⟩
      · rw [show fX6_readNumberedLetter n tb (nI T) rf rp (nI 1) (nI s) (nI (s + L)) xn lm letters 0 16 = _ from eX, bd9_some, rb_1, eM]
        exact Or.inr ⟨p', W, Q, ln, lt, mm, am, _, _, _, _, _, _, _, _, _, _, _, _, _, _, _, _, _, _, _, _, r1, r2, DR_letter hD r3 r5 r6 (Or.inr ⟨v, r4, rfl, rfl⟩), rfl, rfl⟩
    · have n0 := sp0 0 (by decide) (c2 0 (by omega))
      rw [n0, bd1_some, if_pos rfl]
      by_cases c1' : c = 1
      · subst c1'
        rw [sp1 1 (by decide) (c3 (by decide)), bd1_some, if_neg i10, if_neg (by decide), if_neg (by decide), ln30_c (by decide)]
        rcases P_numL (dw := dw) (das := das) (dM := dM) (dT := dT) (dA := dA) hn h d7 (p := s + L) (c := 1) (base := 16) (lim := 4) g3 (Or.inr ⟨rfl, rfl, rfl⟩) rf rp (nI 1) (nI s) xn (nI s) (nI 1) mv mw letters with ⟨F, A, x1, x2, x3, x4, f, x5, f1, f2, f3, eX, eM⟩ | ⟨p', q, v, x1, x2, x4, y1, y2, y3, r1, r2, r3, r4, r5, r6, eX, eM⟩
        · rw [show fX6_readNumberedLetter n tb (nI T) rf rp (nI 1) (nI s) (nI (s + L)) xn lm letters 16 4 = _ from eX, bd9_some, rb_0]
          exact Or.inl ⟨F, A, _, _, _, _, _, _, _, _, _, _, _, _, f1, f2, f3, rfl, eM⟩
        · rw [show fX6_readNumberedLetter n tb (nI T) rf rp (nI 1) (nI s) (nI (s + L)) xn lm letters 16 4 = _ from eX, bd9_some, rb_1, eM]
          exact Or.inr ⟨p', W, Q, ln, lt, mm, am, _, _, _, _, _, _, _, _, _, _, _, _, _, _, _, _, _, _, _, _, r1, r2, DR_letter hD r3 r5 r6 (Or.inr ⟨v, r4, rfl, rfl⟩), rfl, rfl⟩
      · rw [sp0 1 (by decide) (c2 1 (by omega)), bd1_some, if_pos rfl]
        by_cases c2' : c = 2
        · subst c2'
          rw [sp1 2 (by decide) (c3 (by decide)), bd1_some, if_neg i10, if_neg (by decide), if_neg (by decide), ln30_c (by decide)]
          rcases P_plainL (dw := dw) (das := das) (dM := dM) (dT := dT) (dA := dA) hn h d7 (p := s + L) (c := 2) (mkX := 20) (mkM := 20) g3 (Or.inl ⟨rfl, rfl, rfl⟩) rf rp (nI 1) (nI s) xn (nI s) (nI 1) mv mw letters with ⟨F, A, x1, x2, x3, x4, f, x5, f1, f2, f3, eX, eM⟩ | ⟨p', q, x1, x2, x4, y1, y2, y3, r1, r2, r3, r5, r6, eX, eM⟩
          · rw [eX, bd9_some, rb_0]
            exact Or.inl ⟨F, A, _, _, _, _, _, _, _, _, _, _, _, _, f1, f2, f3, rfl, eM⟩
          · rw [eX, bd9_some, rb_1, eM]
            exact Or.inr ⟨p', W, Q, ln, lt, mm, am, _, _, _, _, _, _, _, _, _, _, _, _, _, _, _, _, _, _, _, _, r1, r2, DR_letter hD r3 r5 r6 (Or.inr ⟨20, by decide, rfl, rfl⟩), rfl, rfl⟩
        · rw [sp0 2 (by decide) (c2 2 (by omega)), bd1_some, if_pos rfl]
          by_cases c3' : c = 3
          · subst c3'
            rw [sp1 3 (by decide) (c3 (by decide)), bd1_some, if_neg i10, if_neg (by decide), if_neg (by decide), ln30_c (by decide)]
            rcases P_plainL (dw := dw) (das := das) (dM := dM) (dT := dT) (dA := dA) hn h d7 (p := s + L) (c := 3) (mkX := -2) (mkM := 30) g3 (Or.inr ⟨rfl, rfl, rfl⟩) rf rp (nI 1) (nI s) xn (nI s) (nI 1) mv mw letters with ⟨F, A, x1, x2, x3, x4, f, x5, f1, f2, f3, eX, eM⟩ | ⟨p', q, x1, x2, x4, y1, y2, y3, r1, r2, r3, r5, r6, eX, eM⟩
            · rw [eX, bd9_some, rb_0]
              exact Or.inl ⟨F, A, _, _, _, _, _, _, _, _, _, _, _, _, f1, f2, f3, rfl, eM⟩
            · rw [eX, bd9_some, rb_1, eM]
              exact Or.inr ⟨p', W, Q, ln, lt, mm, am, _, _, _, _, _, _, _, _, _, _, _, _, _, _, _, _, _, _, _, _, r1, r2, DR_letter hD r3 r5 r6 (Or.inl ⟨rfl, rfl⟩), rfl, rfl⟩
          · rw [sp0 3 (by decide) (c2 3 (by omega)), bd1_some, if_pos rfl]
            by_cases c4' : c = 4
            · subst c4'
              rw [sp1 4 (by decide) (c3 (by decide)), bd1_some, if_neg i10, if_neg (by decide), if_neg (by decide), show (nI 4 : Int32) = 4 from rfl, d2, d3, ln30_4 d8.1]
              by_cases w16 : W < 16
              · rw [if_pos w16]
                rcases P_wordL (das := das) (dA := dA) hn h d7 d8 (fun w hw => (d9 w hw).1) w16 (p := s + L) g3 rf rp (nI 1) (nI s) xn (nI s) (nI 1) mv mw spelled rows with ⟨F, A, x1, x2, x3, x4, f1', f2', f3', x5, f1, f2, f3, eX, eM⟩ | ⟨p', L', s', dT', x1, x2, x4, y1, y2, y3, r1, r2, r3, r4, r5, r6, eX, eM⟩
                · rw [eX, bd11_some, rb_0]
                  exact Or.inl ⟨F, A, _, _, _, _, _, _, _, _, _, _, _, _, f1, f2, f3, rfl, eM⟩
                · rw [eX, bd11_some, rb_1, eM]
                  exact Or.inr ⟨p', W + 1, Q, _, _, _, am, _, _, _, _, _, _, _, _, _, _, _, _, _, _, _, _, _, _, _, _, r1, r2, DR_word hD w16 r3 r4 r5 r6, rfl, rfl⟩
              · rw [if_neg w16]
                unfold fX6_readWord
                rw [show (16 : Int32) = nI 16 from rfl, if_neg (nI_nlt (by omega) (by have := d8.1; omega)), ref_n (by decide), bd3_some, rb_0, bd11_some, rb_0]
                exact Or.inl ⟨6, s, _, _, _, _, _, _, _, _, _, _, _, _, by decide, by decide, by omega, rfl, ⟨_, _, _, _, _, _, _, _, _, _, rfl⟩⟩
            · rw [sp0 4 (by decide) (c2 4 (by omega)), bd1_some, if_pos rfl]
              by_cases c5' : c = 5
              · subst c5'
                rw [sp1 5 (by decide) (c3 (by decide)), bd1_some, if_neg i10, if_neg (by decide), if_neg (by decide), show (nI 5 : Int32) = 5 from rfl, d4, d5, ln30_5 d1, d2, d3]
                unfold fX6_readAsk
                by_cases q6 : Q < 6
                · rw [if_pos q6, show (6 : Int32) = nI 6 from rfl, if_pos (nI_lt q6 (by decide))]
                  have e79 : fX9_readLine_p79 n dl (nI W) dM dT (nI Q) dA mt (nI T) (nI (s + L)) (nI s) (nI 1) mv 0 mw 5 1 = bd6 (fX9_next n mt (nI T) (nI (s + L)) (nI s) (nI 1) mv 0 mw) (fun a1 a2 a3 a4 a5 a6 => bd8 (fX9_readAsk_p4 n (nI W) (nI Q) dA mt (nI T) n a1 a2 a3 a4 a5 a6 (nI 0) 1) (fun v13 f14 v15 v16 v17 v18 v19 v20 => fX9_readLine_p138 n dl (nI W) dM dT v13 f14 mt (nI T) v15 v16 v17 v18 v19 v20)) := by
                    obtain ⟨n', en⟩ : ∃ q, n = q + 1 := ⟨n - 1, by omega⟩
                    rw [ln79_1]
                    rcases P_tok hn h g3 0 0 0 (nI s) (nI 1) mv mw with ⟨kd', s', e', xn', mv', g', eX', eM'⟩ | ⟨s', e', xn', b1, b2, b3, hs', eX', eM'⟩
                    · rw [eM', bd6_some, bd6_some, if_pos rfl, if_pos (by decide)]
                      unfold fX9_readLine_p108 fX9_readAsk
                      rw [if_pos rfl, if_neg (by decide), if_pos rfl]
                      rfl
                    · have r4 := ra4_F (n := n) (mt := mt) (dA := dA) (dw := nI W) (das := nI Q) (td := nI T) (pos := b1) (fr := nI s') (so := b2) (va := b3) (F := 1) (wr := nI s') (x1 := nI 0) (x2 := 1) (k := n') (by decide)
                      rw [← en] at r4
                      rw [eM', bd6_some, bd6_some, if_neg (by decide), ln108_F (by decide) (by decide), r4, bd8_some, ln138_F (by decide) (by decide)]
                  rw [e79]
                  rcases P_askLoop (dl := dl) (dM := dM) (dT := dT) hn h d8.1 q6 asks dA rf rp mw (T - (s + L)) n n (s + L) 0 (nI 1) (nI s) xn (nI s) (nI 1) mv (by omega) (by omega) (by omega) (Nat.two_pow_pos W) with ⟨F, A, x1, x2, x3, x4, f, x5, f1, f2, f3, eX, eM⟩ | ⟨p', a', x1, x2, x4, y1, y2, y3, r1, r2, r3, eX, eM⟩
                  · rw [show fX6_readAsk_p23 n tb (nI T) asks (nI W) (nI Q) n rf rp (nI 1) (nI s) (nI (s + L)) xn 0 0 = _ from eX, bd9_some, rb_0]
                    exact Or.inl ⟨F, A, _, _, _, _, _, _, _, _, _, _, _, _, f1, f2, f3, rfl, eM⟩
                  · rw [show fX6_readAsk_p23 n tb (nI T) asks (nI W) (nI Q) n rf rp (nI 1) (nI s) (nI (s + L)) xn 0 0 = _ from eX, bd9_some, rb_1, eM]
                    rw [d2, d3] at hD
                    exact Or.inr ⟨p', W, Q + 1, ln, lt, mm, _, _, _, _, _, _, _, _, _, _, _, _, _, _, _, _, _, _, _, _, _, r1, r2, DR_ask hD q6 r3, rfl, rfl⟩
                · rw [if_neg q6, show (6 : Int32) = nI 6 from rfl, if_neg (nI_nlt (by omega) (by omega)), ref_n (by decide), bd3_some, rb_0, bd9_some, rb_0]
                  exact Or.inl ⟨6, s, _, _, _, _, _, _, _, _, _, _, _, _, by decide, by decide, by omega, rfl, ⟨_, _, _, _, _, _, _, _, _, _, rfl⟩⟩
              · have c6 : c = 6 := by omega
                subst c6
                rw [sp0 5 (by decide) (c2 5 (by omega)), bd1_some, if_pos rfl, ref_n (by decide), bd3_some, rb_0, show (if (6 : Nat) = 6 then (-4 : Int32) else nI 6) = -4 from rfl, if_pos rfl, ln30_0]
                exact Or.inl ⟨2, s, _, _, _, _, _, _, _, _, _, _, _, _, by decide, by decide, by omega, rfl, ⟨_, _, _, _, _, _, _, _, _, _, rfl⟩⟩
  · rw [if_neg (show ¬ nI kd = (1 : Int32) from kd_ne (c := 1) g4 (by decide) z), if_neg (show ¬ nI kd = (1 : Int32) from kd_ne (c := 1) g4 (by decide) z), if_pos rfl, ln30_0, ref_n (kd_ne (c := 5) g4 (by decide) (by omega)), bd3_some, rb_0]
    exact Or.inl ⟨2, s, _, _, _, _, _, _, _, _, _, _, _, _, by decide, by decide, by omega, rfl, ⟨_, _, _, _, _, _, _, _, _, _, rfl⟩⟩
end LN

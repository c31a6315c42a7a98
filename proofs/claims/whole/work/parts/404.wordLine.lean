/-! the text: the line of a word -/
section WL
variable {n T : Nat} {tx : Nat → Nat} {tb mt : Nat → Int32}
theorem rw53_n {dl dM dT : Nat → Int32} {dw td pos fr so va F wr x1 x2 : Int32} (hn : 1000 ≤ n) (h0 : ¬ F = 0) (h1 : ¬ F ≤ 0) : fX9_readWord_p53 n dl dw dM dT mt td pos fr so va x1 n F wr x2 = some (dw, dM, dT, pos, fr, so, va, F, wr) := by
  obtain ⟨n', e⟩ : ∃ q, n = q + 1 := ⟨n - 1, by omega⟩
  have := rw53_F (n := n) (dl := dl) (dM := dM) (dT := dT) (mt := mt) (dw := dw) (td := td) (pos := pos) (fr := fr) (so := so) (va := va) (F := F) (wr := wr) (x1 := x1) (x2 := x2) (k := n') hn h0 h1
  rw [← e] at this
  exact this
theorem P_wordL (hn : 1000 ≤ n) (h : TX T tx tb mt) {lm dl : Nat → Int32} (hL : DL lm dl) {W : Nat} {ln : Nat → Nat} {lt : Nat → Nat → Nat} {dM dT : Nat → Int32} (hD : DWm W ln lt dM dT) {names : Nat → Int64} (hN : ∀ w, w < W → names w = lN (enc (lt w) (ln w))) (hW : W < 16) {p : Nat} (hp : p ≤ T) (rf rp xk xs xn mf ms mv mw : Int32) (spelled : Nat → Int32) (rows : Nat → Int64) {das : Int32} {dA : Nat → Int32} :
    (∃ (F A : Nat) (x1 x2 x3 x4 : Int32) (f1 : Nat → Int64) (f2 : Nat → Int32) (f3 : Nat → Int64) (x5 : Int32), 0 < F ∧ F ≤ 6 ∧ A ≤ T ∧ fX6_readWord n tb (nI T) rf rp xk xs (nI p) xn lm names spelled rows (nI W) = some (0, nI F, nI A, x1, x2, x3, x4, f1, f2, f3, x5) ∧ FM F A (fX9_readLine_p79 n dl (nI W) dM dT das dA mt (nI T) (nI p) mf ms mv 0 mw 4 1)) ∨
    (∃ (p' L s : Nat) (dT' : Nat → Int32) (x1 x2 x4 y1 y2 y3 : Int32), p < p' ∧ p' ≤ T ∧ 1 ≤ L ∧ L ≤ 8 ∧ (∀ i, i < L → lf tx s i < 26 ∧ dT' (8 * W + i) = nI (lf tx s i) ∧ dl (lf tx s i) = nI (mkOf dl (lf tx s i)) ∧ (mkOf dl (lf tx s i) ≤ 20 ∨ mkOf dl (lf tx s i) = 30)) ∧ (∀ j, j < 8 * W → dT' j = dT j) ∧
      fX6_readWord n tb (nI T) rf rp xk xs (nI p) xn lm names spelled rows (nI W) = some (1, rf, rp, x1, x2, nI p', x4, vp_updL names W (lN (enc (lf tx s) L)), upd spelled W (nI L), vp_updL rows W (lN (pkl (spc (fun i => mkOf dl (lf tx s i)) L))), nI (W + 1)) ∧
      fX9_readLine_p79 n dl (nI W) dM dT das dA mt (nI T) (nI p) mf ms mv 0 mw 4 1 = bd6 (fX9_next n mt (nI T) (nI p') y1 y2 y3 0 mw) (fun a1 a2 a3 a4 a5 a6 => some (dl, nI (W + 1), upd dM W (nI L), dT', das, dA, a1, a2, a3, a4, a5, a6))) := by
  have h1 := h.1
  unfold fX6_readWord
  rw [show (16 : Int32) = nI 16 from rfl, if_pos (nI_lt hW (by decide))]
  rcases P_tok hn h hp xk xs xn mf ms mv mw with ⟨kd, s, e, xn', mv', g, eX, eM⟩ | ⟨s, e, xn', a1, a2, a3, hs, eX, eM⟩
  · obtain ⟨g1, g2, g3, g4, g5, g6, g7⟩ := g
    rw [ln79_1, eM, bd6_some, if_pos rfl, if_pos (by decide)]
    unfold fX9_readLine_p108
    rw [if_pos rfl, if_pos rfl]
    unfold fX9_readWord
    by_cases z : kd = 1
    · subst z
      obtain ⟨L, rfl⟩ : ∃ L, e = s + L := ⟨e - s, by omega⟩
      have hl := g6 rfl
      have L1 : 1 ≤ L := by omega
      unfold fX9_readWord_p14
      rw [exp_y (c := 1) eX, bd7_some, if_neg i10, pk_sub (by omega), show s + L - s = L from by omega, if_pos (show nI 1 = 1 from rfl), wants1, bd2_some, nm, if_pos rfl, show (8 : Int32) = nI 8 from rfl]
      by_cases y : 8 < L
      · rw [if_pos (nI_lt y (by omega)), if_pos (nI_lt y (by omega)), ref_n (by decide), bd3_some, rb_0, wants0, bd2_some, rw53_n hn (by decide) (by decide), bd9_some, ln138_F (by decide) (by decide)]
        exact Or.inl ⟨5, s, _, _, _, _, _, _, _, _, by decide, by decide, by omega, rfl, ⟨_, _, _, _, _, _, _, _, _, _, rfl⟩⟩
      · have L8 : L ≤ 8 := by omega
        rw [if_neg (nI_nlt L8 (by omega)), if_neg (nI_nlt L8 (by omega)), wants1, bd2_some]
        obtain ⟨xt1, xt2⟩ := X_told hn h hl g3 lm L n 0 (by omega) (by omega)
        obtain ⟨mt1, mt2⟩ := M_told (dl := dl) (dM := dM) (dT := dT) (dw := nI W) (so := nI 1) (va := mv') (wr := mw) hn h hl g3 L n 0 (by omega) (by omega)
        unfold fX6_allLettersTold
        rw [Nat.add_zero] at xt1 xt2
        by_cases t : ∃ j, j < L ∧ lm (lf tx s j) = -1
        · obtain ⟨j, j1, j2⟩ := t
          rw [xt2 ⟨j, Nat.zero_le _, j1, j2⟩, bd1_some, if_pos rfl, ref_n (by decide), bd3_some, rb_0, show fX9_readWord_p53 n dl (nI W) dM dT mt (nI T) (nI (s + L)) (nI s) (nI 1) mv' (nI L) n 0 mw 0 = _ from mt2 ⟨j, Nat.zero_le _, j1, (DL_iff hL (lf_lt hl j1)).mp j2⟩, bd9_some, ln138_F (by decide) (by decide)]
          exact Or.inl ⟨5, s, _, _, _, _, _, _, _, _, by decide, by decide, by omega, rfl, ⟨_, _, _, _, _, _, _, _, _, _, rfl⟩⟩
        · have told : ∀ j, j < L → ¬ lm (lf tx s j) = -1 := fun j a b => t ⟨j, a, b⟩
          rw [xt1 (fun j _ b => told j b), bd1_some, if_neg i10, show fX9_readWord_p53 n dl (nI W) dM dT mt (nI T) (nI (s + L)) (nI s) (nI 1) mv' (nI L) n 0 mw 0 = _ from mt1 (fun j _ b w => told j b ((DL_iff hL (lf_lt hl b)).mpr w)), X_name hn h hl g3, bd1_some]
          obtain ⟨xh1, xh2⟩ := X_hasName (n := n) (W := W) (by omega) hn names (lN (enc (lf tx s) L))
          obtain ⟨md1, md2⟩ := M_dup (so := nI 1) (va := mv') (wr := mw) hn h L8 hl g3 hD
          by_cases du : ∃ w, w < W ∧ (ln w = L ∧ ∀ i, i < L → lt w i = lf tx s i)
          · obtain ⟨w, w1, w2, w3⟩ := du
            have en : names w = lN (enc (lf tx s) L) := by
              rw [hN w w1, w2, enc_cong w3]
            rw [xh2 ⟨w, w1, en⟩, bd1_some, if_neg i10, ref_n (by decide), bd3_some, rb_0, md2 ⟨w, w1, w2, w3⟩, bd9_some, ln138_F (by decide) (by decide)]
            exact Or.inl ⟨4, s, _, _, _, _, _, _, _, _, by decide, by decide, by omega, rfl, ⟨_, _, _, _, _, _, _, _, _, _, rfl⟩⟩
          · have nd : ∀ w, w < W → ¬ (ln w = L ∧ ∀ i, i < L → lt w i = lf tx s i) := fun w a b => du ⟨w, a, b⟩
            have nn : ∀ w, w < W → ¬ names w = lN (enc (lf tx s) L) := by
              intro w a b
              obtain ⟨d1, d2, d3, d4⟩ := hD.2 w a
              rw [hN w a, fb_lN_inj (enc40 d2 (fun i hi => (d4 i hi).1)) (enc40 L8 (fun i hi => lf_lt hl hi))] at b
              obtain ⟨r, q⟩ := enc_inj (fun i hi => (d4 i hi).1) (fun i hi => lf_lt hl hi) b
              exact nd w a ⟨r, fun i hi => q i (by omega)⟩
            obtain ⟨dT', c1, c2, c3⟩ := M_copyW (dM := dM) (dT := dT) (so := nI 1) (va := mv') (wr := mw) hn h L8 hl g3 hW L n 0 dT (by omega) (by omega) (fun j hj => by omega) (fun j _ => rfl)
            rw [xh1 nn, bd1_some, if_pos rfl, X_speech hn h L8 hl g3 hL told, bd1_some, md1 nd, show fX9_readWord_p153 n (nI W) dM mt (nI T) (nI (s + L)) (nI s) (nI 1) mv' 0 mw (nI L) n dT 0 = _ from c3]
            unfold fX7_tellWord fX9_readWord_p191
            rw [awL_nI (by omega) (by decide), aw_nI (by omega) (by decide), awL_nI (by omega) (by decide), nm, bd4_some, nI_1, aw_nI (by omega) (by decide), nm]
            have good : ∀ i, i < L → lf tx s i < 26 ∧ dT' (8 * W + i) = nI (lf tx s i) ∧ dl (lf tx s i) = nI (mkOf dl (lf tx s i)) ∧ (mkOf dl (lf tx s i) ≤ 20 ∨ mkOf dl (lf tx s i) = 30) := by
              intro i hi
              obtain ⟨q1, q2⟩ := mkOf_DL hL (lf_lt hl hi) (told i hi)
              refine ⟨lf_lt hl hi, c1 i hi, q1, ?_⟩
              rcases q2 with ⟨_, b⟩ | ⟨_, b⟩
              · exact Or.inr b
              · exact Or.inl b
            rcases P_tok hn h (p := s + L) g3 1 (nI s) xn' (nI s) (nI 1) mv' mw with ⟨kd3, t3, e3, xn3, mv3, g, eX3, eM3⟩ | ⟨t3, e3, xn3, b1, b2, b3, ht3, eX3, eM3⟩
            · obtain ⟨k1, k2, k3, k4, k5, k6, -⟩ := g
              rw [eM3, bd6_some, bd9_some]
              by_cases w : kd3 = 3
              · subst w
                rw [exp_y (c := 3) eX3, bd7_some, rb_1, show (nI 3 : Int32) = 3 from rfl, ln138_y]
                exact Or.inr ⟨e3, L, s, dT', _, _, _, _, _, _, by omega, k3, L1, L8, good, c2, rfl, rfl⟩
              · rw [exp_n (c := 3) eX3 (kd_ne (c := 3) k4 (by decide) w) (kd_ne (c := 5) k4 (by decide) (by omega)), bd7_some, rb_0, ln138_n (kd_ne (c := 3) k4 (by decide) w)]
                exact Or.inl ⟨2, t3, _, _, _, _, _, _, _, _, by decide, by decide, by omega, rfl, ⟨_, _, _, _, _, _, _, _, _, _, rfl⟩⟩
            · rw [eM3, bd6_some, bd9_some, ln138_F (by decide) (by decide), exp_b (c := 3) eX3 (by decide), bd7_some, rb_0]
              exact Or.inl ⟨1, t3, _, _, _, _, _, _, _, _, by decide, by decide, by omega, rfl, ⟨_, _, _, _, _, _, _, _, _, _, rfl⟩⟩
    · rw [exp_n (c := 1) eX (kd_ne (c := 1) g4 (by decide) z) (kd_ne (c := 5) g4 (by decide) (by omega)), bd7_some, if_pos rfl, if_neg (show ¬ nI kd = (1 : Int32) from kd_ne (c := 1) g4 (by decide) z), rw14_0 hn, bd9_some, ln138_F (by decide) (by decide)]
      exact Or.inl ⟨2, s, _, _, _, _, _, _, _, _, by decide, by decide, by omega, rfl, ⟨_, _, _, _, _, _, _, _, _, _, rfl⟩⟩
  · refine Or.inl ⟨1, s, 5, nI s, e, xn', names, spelled, rows, nI W, by decide, by decide, by omega, ?_, ln79_bad eM⟩
    rw [exp_b (c := 1) eX (by decide), bd7_some, if_pos rfl]
    rfl
end WL
